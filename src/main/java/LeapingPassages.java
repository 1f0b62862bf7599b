import java.util.Arrays;

/** A text of words, asks over it, and the lists of least spans that the asks have. */
public final class LeapingPassages {
    public static final int NONE = -1;

    private static final int BAD = -2;
    private static final int OTHER = -3;
    private static final int NOTHING = -4;
    private static final int STUCK = -5;
    private static final int FULL = -6;
    private static final int NOT_REFUSED = 0;
    private static final int REFUSALS = 5;
    private static final int AHEAD_OF_FAULTS = -20;

    private static final int MOST_PLACES = 60;
    private static final int MOST_WORDS = 16;
    private static final int MOST_ASKS = 24;
    private static final int MOST_BYTES = 250;
    private static final int MOST_SHELVES = 8;
    private static final int MOST_ELEMENTS = 40;
    private static final int MOST_TWOS = 20;
    private static final int MOST_FOLDED = 6;
    private static final int MOST_WEIGHT = 1000000;
    private static final int WHOLE_SCORE = 5040;

    private static final int WORD = 0;
    private static final int PHRASE = 1;
    private static final int EITHER = 2;
    private static final int BOTH = 3;
    private static final int THEN = 4;
    private static final int IN = 5;
    private static final int OUT = 6;
    private static final int HAS = 7;
    private static final int LACKS = 8;
    private static final int REGION = 9;
    private static final int SHORT = 10;
    private static final int SOME = 11;

    private static final int PARTS = 1;
    private static final int MARK_OF_SENTENCE = 1;
    private static final int MARK_OF_PART = 2;

    private static final int BYTES = 0;
    private static final int SHORTS = 1;
    private static final int INTS = 2;
    private static final int BOOLEANS = 4;
    private static final int FIRST_ASK_HELD = 10;

    private final Text page = new Text();
    private final Text pageKept = new Text();
    private final Asks asks = new Asks();
    private final Asks asksKept = new Asks();
    private final Lists lists = new Lists(page, asks);
    private final Spans made = new Spans();
    private final int[] scores = new int[MOST_PLACES];
    private final Tape tape = new Tape();
    private final AskReader reader = new AskReader(tape, asks);
    private final Shelf[] shelves = new Shelf[MOST_SHELVES];
    private final int[] refusals = new int[REFUSALS];
    private boolean isKept;

    public LeapingPassages() {
        for (int s = 0; s < MOST_SHELVES; s++) {
            shelves[s] = new Shelf();
        }
    }

    // ---- shelves ----

    public int row(int s, int sort, int n) {
        if (!isShelf(s) || sort < BYTES || sort > BOOLEANS || n < 0 || n > MOST_ELEMENTS) {
            return refuse(BAD);
        }
        shelves[s].holdRow(sort, n);
        return 1;
    }

    public int set(int s, int i, long v) {
        int refusal = rowRefusal(s, 0);
        if (refusal != NOT_REFUSED) {
            return refuse(refusal);
        }
        Shelf shelf = shelves[s];
        if (!shelf.isElement(i)) {
            return refuse(BAD);
        }
        shelf.values[i] = narrowed(shelf.holds, v);
        return 1;
    }

    public int copy(int p, int q, int i, int j, int n) {
        if (!isShelf(p) || !isShelf(q)) {
            return refuse(BAD);
        }
        Shelf from = shelves[p];
        Shelf to = shelves[q];
        boolean bothHold = from.holds != NONE && to.holds != NONE;
        if (from.holdsAsk() || to.holdsAsk() || bothHold && from.holds != to.holds) {
            return refuse(OTHER);
        }
        if (!bothHold) {
            return refuse(NOTHING);
        }
        if (!from.hasRun(i, n) || !to.hasRun(j, n)) {
            return refuse(BAD);
        }
        System.arraycopy(from.values, i, to.values, j, n);
        return n;
    }

    public long element(int s, int i) {
        if (!isShelf(s) || !shelves[s].holdsRow() || !shelves[s].isElement(i)) {
            return 0L;
        }
        return shelves[s].values[i];
    }

    public int holds(int s) {
        return isShelf(s) ? shelves[s].holds : NONE;
    }

    public int show(int s, int ask) {
        if (!isShelf(s) || ask != NONE && !asks.isAsk(ask)) {
            return refuse(BAD);
        }
        shelves[s].holds = ask == NONE ? NONE : FIRST_ASK_HELD + ask;
        return 1;
    }

    public int says(int s, int as) {
        if (!isShelf(s) || as < 0 || as > 6) {
            return refuse(BAD);
        }
        Shelf shelf = shelves[s];
        if (shelf.holdsRow()) {
            return refuse(OTHER);
        }
        int ask = shelf.holds - FIRST_ASK_HELD;
        if (!asks.isAsk(ask)) {
            return refuse(NOTHING);
        }
        return isOfSort(asks.row[ask].kind, as) ? saying(ask, as) : refuse(OTHER);
    }

    // ---- the text ----

    public int write(int word) {
        if (!isWord(word)) {
            return refuse(BAD);
        }
        if (page.size >= MOST_PLACES) {
            return refuse(FULL);
        }
        page.push(word);
        lists.forgetAll();
        return page.size - 1;
    }

    public int end(int mark) {
        if (mark != MARK_OF_SENTENCE && mark != MARK_OF_PART) {
            return refuse(BAD);
        }
        int was = page.lastMark();
        if (was >= mark) {
            return refuse(STUCK);
        }
        page.markLast(mark);
        lists.forgetAll();
        return was;
    }

    public int change(int place, int word) {
        if (!page.isPlace(place) || !isWord(word)) {
            return refuse(BAD);
        }
        int was = page.words[place];
        page.words[place] = word;
        lists.forgetAll();
        return was;
    }

    public int stand(int word, int other, int is) {
        if (!isWord(word) || !isWord(other) || word == other || is < 0 || is > 1) {
            return refuse(BAD);
        }
        int was = page.standing[word] >> other & 1;
        if (was != is) {
            page.standing[word] ^= 1 << other;
            lists.forgetAll();
        }
        return was;
    }

    // ---- the tape ----

    public int feed(int letter) {
        if (letter < 0 || letter > 255) {
            return refuse(BAD);
        }
        if (tape.size >= MOST_BYTES) {
            return refuse(FULL);
        }
        tape.push(letter);
        return tape.size;
    }

    public int wipe() {
        int was = tape.size;
        tape.size = 0;
        return was;
    }

    public int text() {
        int fault = tape.textFault(page.lastMark());
        int more = tape.letters();
        if (fault != NONE) {
            tape.size = 0;
            return refuseFault(fault);
        }
        if (page.size + more > MOST_PLACES) {
            tape.size = 0;
            return refuse(FULL);
        }
        tape.writeTo(page);
        tape.size = 0;
        lists.forgetAll();
        return more;
    }

    public int ask() {
        int fault = reader.read();
        tape.size = 0;
        if (fault != NONE) {
            return refuseFault(fault);
        }
        if (reader.askCount > MOST_ASKS) {
            return refuse(FULL);
        }
        asks.size = reader.askCount;
        return asks.size - 1;
    }

    // ---- new asks ----

    public int word(int word) {
        return isWord(word) ? addedLeaf(WORD, word, 1) : refuse(BAD);
    }

    public int phrase(int s, int n) {
        if (n < 2 || n > 4) {
            return refuse(BAD);
        }
        int refusal = rowRefusal(s, n);
        if (refusal != NOT_REFUSED) {
            return refuse(refusal);
        }
        int run = 0;
        for (int i = 0; i < n; i++) {
            long word = shelves[s].values[i];
            if (word < 0 || word >= MOST_WORDS) {
                return refuse(STUCK);
            }
            run |= (int) word << 4 * i;
        }
        return addedLeaf(PHRASE, run, n);
    }

    public int pair(int kind, int x, int y) {
        if (!isPair(kind) || !asks.isAsk(x) || !asks.isAsk(y)) {
            return refuse(BAD);
        }
        return addedOver(kind, NONE, x, y, NONE);
    }

    public int region(int region) {
        return region < 0 || region > 2 ? refuse(BAD) : addedLeaf(REGION, region, 0);
    }

    public int brief(int x, int n) {
        if (!asks.isAsk(x) || n < 1 || n > MOST_PLACES) {
            return refuse(BAD);
        }
        return addedOver(SHORT, n, x, NONE, NONE);
    }

    public int some(int k, int x, int y, int z) {
        if (k < 1 || k > 3 || !asks.isAsk(x) || !asks.isAsk(y) || !asks.isAsk(z)) {
            return refuse(BAD);
        }
        return addedOver(SOME, k, x, y, z);
    }

    public int drop() {
        if (asks.size < 1) {
            return refuse(STUCK);
        }
        asks.size--;
        lists.forget(asks.size);
        emptyShelvesOfLostAsks();
        return asks.size;
    }

    // ---- what there is ----

    public int askOf(int ask, int what) {
        if (!asks.isAsk(ask)) {
            return refuse(BAD);
        }
        Ask it = asks.row[ask];
        switch (what) {
            case 0: return it.kind;
            case 1: return it.x;
            case 2: return it.y;
            case 3: return it.z;
            case 4: return it.number;
            case 5: return it.weight;
            case 6: return it.depth;
            case 7: return it.words;
            default: return refuse(BAD);
        }
    }

    public int placeOf(int place, int what) {
        if (!page.isPlace(place)) {
            return refuse(BAD);
        }
        switch (what) {
            case 0: return page.words[place];
            case 1: return page.marks[place];
            case 2: return page.endsAhead(place, MARK_OF_SENTENCE);
            case 3: return page.endsAhead(place, MARK_OF_PART);
            case 4: return page.wordsHad(place);
            default: return refuse(BAD);
        }
    }

    public int many(int ask) {
        return asks.isAsk(ask) ? lists.of(ask).size : refuse(BAD);
    }

    public int span(int ask, int i) {
        if (!asks.isAsk(ask) || !lists.of(ask).isSpan(i)) {
            return refuse(BAD);
        }
        return lists.of(ask).told(i);
    }

    public int next(int ask, int p, int what) {
        if (!asks.isAsk(ask) || what < 0 || what > 3) {
            return refuse(BAD);
        }
        Spans list = lists.of(ask);
        // no place is outside these bounds, and so p + 1 can't wrap
        int place = Math.max(-1, Math.min(p, MOST_PLACES));
        switch (what) {
            case 0: return list.orNone(list.onward(0, place));
            case 1: return list.orNone(list.lastsBelow(place));
            case 2: return list.lastsBelow(place + 1) - 1;
            default: return list.onward(0, place + 1) - 1;
        }
    }

    public int at(int ask, int place) {
        if (!asks.isAsk(ask) || !page.isPlace(place)) {
            return refuse(BAD);
        }
        return lists.of(ask).through(place);
    }

    public int crowd(int ask) {
        if (!asks.isAsk(ask)) {
            return refuse(BAD);
        }
        Spans list = lists.of(ask);
        int best = NONE;
        int most = 0;
        for (int place = 0; place < page.size; place++) {
            int through = list.through(place);
            if (through > most) {
                most = through;
                best = place;
            }
        }
        return best;
    }

    public int cover(int ask, int what) {
        if (!asks.isAsk(ask) || what < 0 || what > 2) {
            return refuse(BAD);
        }
        Spans list = lists.of(ask);
        int covered = 0;
        int run = 0;
        int longest = 0;
        for (int place = 0; place < page.size; place++) {
            boolean isCovered = list.through(place) > 0;
            covered += isCovered ? 1 : 0;
            run = isCovered ? 0 : run + 1;
            longest = Math.max(longest, run);
        }
        return what == 0 ? covered : what == 1 ? page.size - covered : longest;
    }

    public int lengths(int ask, int what) {
        if (!asks.isAsk(ask) || what < 0 || what > 2) {
            return refuse(BAD);
        }
        Spans list = lists.of(ask);
        int fewest = list.size == 0 ? 0 : MOST_PLACES;
        int most = 0;
        int together = 0;
        for (int i = 0; i < list.size; i++) {
            int length = list.lengthOf(i);
            fewest = Math.min(fewest, length);
            most = Math.max(most, length);
            together += length;
        }
        return what == 0 ? fewest : what == 1 ? most : together;
    }

    public int apart(int ask, int i) {
        if (!asks.isAsk(ask) || i < NONE) {
            return refuse(BAD);
        }
        Spans list = lists.of(ask);
        if (i == NONE) {
            return list.apartCount();
        }
        int number = list.apartNumber(i);
        return number == NONE ? refuse(BAD) : number;
    }

    public int pins(int ask, int i) {
        if (!asks.isAsk(ask) || i < NONE) {
            return refuse(BAD);
        }
        Spans list = lists.of(ask);
        // the first span without a pin is the first one behind the last pin: the next one apart
        if (i == NONE) {
            return list.apartCount();
        }
        int number = list.apartNumber(i);
        return number == NONE ? refuse(BAD) : list.lastAt(number);
    }

    public int score(int ask, int part) {
        if (!asks.isAsk(ask) || part < 0 || part >= page.count(MARK_OF_PART)) {
            return refuse(BAD);
        }
        page.regionsInto(PARTS, made);
        return scoreOf(lists.of(ask), part);
    }

    public int rank(int ask, int i) {
        int parts = page.count(MARK_OF_PART);
        if (!asks.isAsk(ask) || i < 0 || i >= parts) {
            return refuse(BAD);
        }
        Spans list = lists.of(ask);
        page.regionsInto(PARTS, made);
        for (int part = 0; part < parts; part++) {
            scores[part] = scoreOf(list, part);
        }
        for (int part = 0; part < parts; part++) {
            if (partsAhead(part, parts) == i) {
                return part;
            }
        }
        return NONE;
    }

    public int window(int ask, int n, int what) {
        if (!asks.isAsk(ask) || n < 1 || n > MOST_PLACES || what < 0 || what > 1) {
            return refuse(BAD);
        }
        Spans list = lists.of(ask);
        int best = 0;
        int most = list.within(0, n - 1);
        for (int first = 1; first + n <= page.size; first++) {
            int within = list.within(first, first + n - 1);
            if (within > most) {
                most = within;
                best = first;
            }
        }
        return what == 0 ? best : most;
    }

    // ---- lists beside lists ----

    public int gap(int x, int y) {
        if (!asks.isAsk(x) || !asks.isAsk(y)) {
            return refuse(BAD);
        }
        Spans one = lists.of(x);
        Spans other = lists.of(y);
        int fewest = MOST_PLACES;
        for (int i = 0; i < one.size; i++) {
            for (int j = 0; j < other.size; j++) {
                int behind = Math.max(one.firsts[i], other.firsts[j]);
                int ahead = Math.min(one.lasts[i], other.lasts[j]);
                fewest = Math.min(fewest, Math.max(0, behind - ahead - 1));
            }
        }
        return fewest == MOST_PLACES ? NONE : fewest;
    }

    public int under(int x, int y, int what) {
        if (!asks.isAsk(x) || !asks.isAsk(y) || what < 0 || what > 2) {
            return refuse(BAD);
        }
        Spans one = lists.of(x);
        Spans other = lists.of(y);
        if (what == 2) {
            return one.common(other);
        }
        lists.join(what == 0 ? IN : HAS, one, other, made);
        return made.size;
    }

    public int alike(int x, int y) {
        if (!asks.isAsk(x) || !asks.isAsk(y)) {
            return refuse(BAD);
        }
        return lists.of(x).firstUnlike(lists.of(y));
    }

    public int same(int ask) {
        if (!asks.isAsk(ask)) {
            return refuse(BAD);
        }
        Spans list = lists.of(ask);
        for (int lesser = 0; lesser < ask; lesser++) {
            if (lists.of(lesser).firstUnlike(list) == NONE) {
                return lesser;
            }
        }
        return ask;
    }

    public int inside(int ask) {
        if (!asks.isAsk(ask)) {
            return refuse(BAD);
        }
        Spans list = lists.of(ask);
        int bits = 0;
        for (int other = 0; other < asks.size; other++) {
            Spans its = lists.of(other);
            lists.join(IN, its, list, made);
            if (made.size == its.size) {
                bits |= 1 << other;
            }
        }
        return bits;
    }

    // ---- what a word does ----

    public int words(int ask, int what) {
        if (!asks.isAsk(ask) || what < 0 || what > 2) {
            return refuse(BAD);
        }
        int size = lists.of(ask).size;
        int bits = 0;
        for (int word = 0; word < MOST_WORDS; word++) {
            int left = lists.sizeWithout(ask, word);
            boolean fits = what == 0 ? left == 0 : what == 1 ? left > size : left < size;
            if (fits) {
                bits |= 1 << word;
            }
        }
        return bits;
    }

    public int whatIf(int ask, int place, int word) {
        if (!asks.isAsk(ask) || !page.isPlace(place) || !isWord(word)) {
            return refuse(BAD);
        }
        return lists.sizeIf(ask, place, word);
    }

    public int bestWord(int ask, int place) {
        if (!asks.isAsk(ask) || !page.isPlace(place)) {
            return refuse(BAD);
        }
        int best = 0;
        int most = NONE;
        for (int word = 0; word < MOST_WORDS; word++) {
            int size = lists.sizeIf(ask, place, word);
            if (size > most) {
                most = size;
                best = word;
            }
        }
        return best;
    }

    // ---- lists told by a row ----

    public int kinds(int x, int y, int s, int n) {
        if (!asks.isAsk(x) || !asks.isAsk(y) || n < 0 || n > MOST_TWOS) {
            return refuse(BAD);
        }
        int refusal = rowRefusal(s, 2 * n);
        if (refusal != NOT_REFUSED) {
            return refuse(refusal);
        }
        Spans one = lists.of(x);
        Spans other = lists.of(y);
        int bits = 0;
        for (int kind = EITHER; kind <= LACKS; kind++) {
            lists.join(kind, one, other, made);
            if (shelves[s].judged(made, n) == NONE) {
                bits |= 1 << kind;
            }
        }
        return bits;
    }

    public int judge(int ask, int s, int n) {
        if (!asks.isAsk(ask) || n < 0 || n > MOST_TWOS) {
            return refuse(BAD);
        }
        int refusal = rowRefusal(s, 2 * n);
        if (refusal != NOT_REFUSED) {
            return refuse(refusal);
        }
        return shelves[s].judged(lists.of(ask), n);
    }

    public int leap(int ask, int s, int n) {
        if (!asks.isAsk(ask) || n < 0 || n > MOST_ELEMENTS) {
            return refuse(BAD);
        }
        int refusal = rowRefusal(s, n);
        if (refusal != NOT_REFUSED) {
            return refuse(refusal);
        }
        Spans list = lists.of(ask);
        int cursor = 0;
        for (int i = 0; i < n; i++) {
            cursor = list.onward(cursor, shelves[s].values[i]);
        }
        return list.orNone(cursor);
    }

    public int fold(int kind, int s, int n, int i) {
        if (!isPair(kind) || n < 1 || n > MOST_FOLDED || i < NONE) {
            return refuse(BAD);
        }
        int refusal = rowRefusal(s, n);
        if (refusal != NOT_REFUSED) {
            return refuse(refusal);
        }
        long[] told = shelves[s].values;
        for (int e = 0; e < n; e++) {
            if (told[e] < 0 || told[e] >= asks.size) {
                return refuse(STUCK);
            }
        }
        made.take(lists.of((int) told[0]));
        for (int e = 1; e < n; e++) {
            lists.join(kind, made, lists.of((int) told[e]), made);
        }
        return i == NONE ? made.size : made.isSpan(i) ? made.told(i) : NONE;
    }

    // ---- days, images, status ----

    public int days(int n) {
        if (n < 1 || n > MOST_PLACES) {
            return refuse(BAD);
        }
        for (int day = 0; day < n; day++) {
            page.live();
        }
        lists.forgetAll();
        return page.size;
    }

    public int seed(int v) {
        int was = page.seed;
        page.seed = v;
        return was;
    }

    public int image() {
        pageKept.take(page);
        asksKept.take(asks);
        isKept = true;
        return 1;
    }

    public int back() {
        if (!isKept) {
            return refuse(STUCK);
        }
        page.take(pageKept);
        asks.take(asksKept);
        lists.forgetAll();
        emptyShelvesOfLostAsks();
        return 1;
    }

    public int status(int what) {
        switch (what) {
            case 0: return page.size;
            case 1: return page.count(MARK_OF_SENTENCE);
            case 2: return page.count(MARK_OF_PART);
            case 3: return asks.size;
            case 4: return page.differentWords();
            case 5: return page.twosStanding();
            case 6: return tape.size;
            case 7: return page.seed;
            case 8: return shelvesInUse();
            default: break;
        }
        return what >= 12 && what < 12 + REFUSALS ? refusals[what - 12] : NONE;
    }

    // ---- what the face leans on ----

    private int refuse(int number) {
        int line = BAD - number;
        if (line >= 0 && line < REFUSALS) {
            refusals[line]++;
        }
        return number;
    }

    private int refuseFault(int fault) {
        refuse(BAD);
        return AHEAD_OF_FAULTS - fault;
    }

    /** The refusal of a call that wants n elements at least of the row in a shelf. */
    private int rowRefusal(int s, int n) {
        if (!isShelf(s)) {
            return BAD;
        }
        Shelf shelf = shelves[s];
        if (shelf.holdsAsk()) {
            return OTHER;
        }
        if (!shelf.holdsRow()) {
            return NOTHING;
        }
        return shelf.size < n ? BAD : NOT_REFUSED;
    }

    private int addedLeaf(int kind, int run, int length) {
        if (asks.isFull()) {
            return refuse(FULL);
        }
        asks.putLeaf(asks.size, kind, run, length);
        return asks.grow();
    }

    private int addedOver(int kind, int number, int x, int y, int z) {
        if (asks.isFull()) {
            return refuse(FULL);
        }
        asks.putOver(asks.size, kind, number, x, y, z);
        return asks.grow();
    }

    private int saying(int ask, int as) {
        Ask it = asks.row[ask];
        int size = lists.of(ask).size;
        switch (as) {
            case 0: return size;
            case 2: return 100 * it.x + it.y;
            case 3: return lists.of(it.x).size + lists.of(it.y).size - size;
            case 4: return lists.of(it.x).size - size;
            default: return it.number;
        }
    }

    private void emptyShelvesOfLostAsks() {
        for (int s = 0; s < MOST_SHELVES; s++) {
            if (shelves[s].holds >= FIRST_ASK_HELD + asks.size) {
                shelves[s].holds = NONE;
            }
        }
    }

    private int shelvesInUse() {
        int inUse = 0;
        for (int s = 0; s < MOST_SHELVES; s++) {
            inUse += shelves[s].holds == NONE ? 0 : 1;
        }
        return inUse;
    }

    /** The score that a list gives to one of the parts that stand in made. */
    private int scoreOf(Spans list, int part) {
        if (!made.isSpan(part)) {
            return 0;
        }
        int score = 0;
        int end = list.lastsBelow(made.lasts[part] + 1);
        for (int i = list.onward(0, made.firsts[part]); i < end; i++) {
            int length = list.lengthOf(i);
            score += length > 0 ? WHOLE_SCORE / length : 0;
        }
        return score;
    }

    private int partsAhead(int part, int parts) {
        int ahead = 0;
        for (int other = 0; other < parts; other++) {
            boolean isMore = scores[other] > scores[part];
            if (isMore || other < part && scores[other] == scores[part]) {
                ahead++;
            }
        }
        return ahead;
    }

    private static boolean isShelf(int s) {
        return s >= 0 && s < MOST_SHELVES;
    }

    private static boolean isWord(int word) {
        return word >= 0 && word < MOST_WORDS;
    }

    private static boolean isPair(int kind) {
        return kind >= EITHER && kind <= LACKS;
    }

    private static boolean isOfSort(int kind, int as) {
        switch (as) {
            case 0: return true;
            case 1: return kind == WORD || kind == PHRASE || kind == REGION;
            case 2: return isPair(kind);
            case 3: return kind >= EITHER && kind <= THEN;
            case 4: return kind >= IN && kind <= LACKS;
            case 5: return kind == SHORT;
            default: return kind == SOME;
        }
    }

    private static long narrowed(int sort, long v) {
        switch (sort) {
            case BYTES: return (byte) v;
            case SHORTS: return (short) v;
            case INTS: return (int) v;
            case BOOLEANS: return v == 0L ? 0L : 1L;
            default: return v;
        }
    }

    /** One shelf: it holds NONE, a row by its sort, or the number of an ask behind 10. */
    private static final class Shelf {
        final long[] values = new long[MOST_ELEMENTS];
        int size;
        int holds = NONE;

        void holdRow(int sort, int n) {
            Arrays.fill(values, 0L);
            size = n;
            holds = sort;
        }

        boolean holdsRow() {
            return holds >= BYTES && holds <= BOOLEANS;
        }

        boolean holdsAsk() {
            return holds >= FIRST_ASK_HELD;
        }

        boolean isElement(int i) {
            return i >= 0 && i < size;
        }

        boolean hasRun(int i, int n) {
            return i >= 0 && n >= 0 && n <= size && i <= size - n;
        }

        /** The first number at which a list isn't as n twos of the row tell it. */
        int judged(Spans list, int n) {
            if (!hasRun(0, 2 * n)) {
                return 0;
            }
            for (int i = 0; i < n; i++) {
                boolean isAsTold = list.isSpan(i)
                    && list.firsts[i] == values[2 * i] && list.lasts[i] == values[2 * i + 1];
                if (!isAsTold) {
                    return i;
                }
            }
            return list.size > n ? n : NONE;
        }
    }

    /** The places, what stands for what, and the seed of the draws. */
    private static final class Text {
        final int[] words = new int[MOST_PLACES];
        final int[] marks = new int[MOST_PLACES];
        /** For each word, as bits, those for which it stands. */
        final int[] standing = new int[MOST_WORDS];
        int size;
        int seed = 1;

        void take(Text other) {
            System.arraycopy(other.words, 0, words, 0, MOST_PLACES);
            System.arraycopy(other.marks, 0, marks, 0, MOST_PLACES);
            System.arraycopy(other.standing, 0, standing, 0, MOST_WORDS);
            size = other.size;
            seed = other.seed;
        }

        boolean isPlace(int place) {
            return place >= 0 && place < size;
        }

        void push(int word) {
            if (size < MOST_PLACES) {
                words[size] = word;
                marks[size] = 0;
                size++;
            }
        }

        /** Without places it is the mark behind which no other can be set. */
        int lastMark() {
            return size > 0 ? marks[size - 1] : MARK_OF_PART;
        }

        void markLast(int mark) {
            if (size > 0) {
                marks[size - 1] = mark;
            }
        }

        int wordsHad(int place) {
            int word = words[place];
            return 1 << word | standing[word];
        }

        int endsAhead(int place, int mark) {
            int ends = 0;
            for (int ahead = 0; ahead < place; ahead++) {
                ends += marks[ahead] >= mark ? 1 : 0;
            }
            return ends;
        }

        /** How many sentences, or parts, there are, by the mark that ends them. */
        int count(int mark) {
            return size == 0 ? 0 : endsAhead(size - 1, mark) + 1;
        }

        int differentWords() {
            int bits = 0;
            for (int place = 0; place < size; place++) {
                bits |= 1 << words[place];
            }
            return Integer.bitCount(bits);
        }

        int twosStanding() {
            int twos = 0;
            for (int word = 0; word < MOST_WORDS; word++) {
                twos += Integer.bitCount(standing[word]);
            }
            return twos;
        }

        /** A region's number is one less than the least mark that ends it; the whole text has none. */
        void regionsInto(int region, Spans out) {
            out.size = 0;
            int first = 0;
            for (int place = 0; place < size; place++) {
                if (place == size - 1 || marks[place] > region) {
                    out.add(first, place);
                    first = place + 1;
                }
            }
        }

        int draw(int below) {
            seed = seed * 1103515245 + 12345;
            return below > 0 ? (seed >>> 16) % below : 0;
        }

        void live() {
            int word = draw(MOST_WORDS);
            if (size < MOST_PLACES) {
                push(word);
            } else {
                words[draw(MOST_PLACES)] = word;
            }
            int drawn = draw(8);
            if (drawn == 0) {
                markLast(MARK_OF_PART);
            } else if (drawn <= 2 && lastMark() == 0) {
                markLast(MARK_OF_SENTENCE);
            }
        }
    }

    /** One ask, and what it is as a tree. */
    private static final class Ask {
        int kind;
        int x;
        int y;
        int z;
        /** Word, first word, region, n or k; NONE of a pair. */
        int number;
        /** The words of a word or a phrase, four bits each, the first one lowest. */
        int run;
        int length;
        int weight;
        int depth;
        int words;
        /** As bits: itself, and all asks that its list comes of. */
        int reach;

        void become(int ofKind, int ofNumber, int itself) {
            kind = ofKind;
            number = ofNumber;
            x = NONE;
            y = NONE;
            z = NONE;
            run = 0;
            length = 0;
            weight = 1;
            depth = 0;
            words = 0;
            reach = 1 << itself;
        }

        void goOver(Ask part) {
            weight = Math.min(MOST_WEIGHT, weight + part.weight);
            depth = Math.max(depth, part.depth + 1);
            words |= part.words;
            reach |= part.reach;
        }

        void take(Ask other) {
            kind = other.kind;
            x = other.x;
            y = other.y;
            z = other.z;
            number = other.number;
            run = other.run;
            length = other.length;
            weight = other.weight;
            depth = other.depth;
            words = other.words;
            reach = other.reach;
        }
    }

    private static final class Asks {
        final Ask[] row = new Ask[MOST_ASKS];
        int size;

        Asks() {
            for (int i = 0; i < MOST_ASKS; i++) {
                row[i] = new Ask();
            }
        }

        void take(Asks other) {
            size = other.size;
            for (int i = 0; i < size && i < MOST_ASKS; i++) {
                row[i].take(other.row[i]);
            }
        }

        boolean isAsk(int ask) {
            return ask >= 0 && ask < size;
        }

        boolean isFull() {
            return size >= MOST_ASKS;
        }

        /** Takes in what was put behind the asks, and answers its number. */
        int grow() {
            size++;
            return size - 1;
        }

        /** What is put where there is no room is lost: a reader counts it all the same. */
        void putLeaf(int slot, int kind, int run, int length) {
            if (slot < 0 || slot >= MOST_ASKS) {
                return;
            }
            Ask it = row[slot];
            it.become(kind, run & MOST_WORDS - 1, slot);
            it.run = run;
            it.length = length;
            for (int i = 0; i < length; i++) {
                it.words |= 1 << (run >> 4 * i & MOST_WORDS - 1);
            }
        }

        void putOver(int slot, int kind, int number, int x, int y, int z) {
            if (slot < 0 || slot >= MOST_ASKS) {
                return;
            }
            Ask it = row[slot];
            it.become(kind, number, slot);
            it.x = x;
            it.y = y;
            it.z = z;
            if (x >= 0 && x < slot) {
                it.goOver(row[x]);
            }
            if (y >= 0 && y < slot) {
                it.goOver(row[y]);
            }
            if (z >= 0 && z < slot) {
                it.goOver(row[z]);
            }
        }
    }

    /** A list of spans, none of which lies in another: firsts and lasts both ascend. */
    private static final class Spans {
        final int[] firsts = new int[MOST_PLACES];
        final int[] lasts = new int[MOST_PLACES];
        int size;

        void add(int first, int last) {
            if (size < MOST_PLACES) {
                firsts[size] = first;
                lasts[size] = last;
                size++;
            }
        }

        void take(Spans other) {
            System.arraycopy(other.firsts, 0, firsts, 0, MOST_PLACES);
            System.arraycopy(other.lasts, 0, lasts, 0, MOST_PLACES);
            size = other.size;
        }

        boolean isSpan(int i) {
            return i >= 0 && i < size;
        }

        int orNone(int i) {
            return isSpan(i) ? i : NONE;
        }

        int told(int i) {
            return 100 * firsts[i] + lasts[i];
        }

        int lengthOf(int i) {
            return lasts[i] - firsts[i] + 1;
        }

        /** The first span from i on whose first isn't less than p; the size, if there is none. */
        int onward(int i, long p) {
            int to = i;
            while (to < size && firsts[to] < p) {
                to++;
            }
            return to;
        }

        int lastsBelow(int p) {
            int i = 0;
            while (i < size && lasts[i] < p) {
                i++;
            }
            return i;
        }

        /** The last of the i-th span; of none one that is behind every place. */
        int lastAt(int i) {
            return isSpan(i) ? lasts[i] : MOST_PLACES;
        }

        /** How many spans have a place in them. */
        int through(int place) {
            return onward(0, place + 1) - lastsBelow(place);
        }

        /** How many spans lie in another one. */
        int within(int first, int last) {
            return Math.max(0, lastsBelow(last + 1) - onward(0, first));
        }

        int firstUnlike(Spans other) {
            int least = Math.min(size, other.size);
            for (int i = 0; i < least; i++) {
                if (told(i) != other.told(i)) {
                    return i;
                }
            }
            return size == other.size ? NONE : least;
        }

        int common(Spans other) {
            int common = 0;
            int j = 0;
            for (int i = 0; i < size; i++) {
                j = other.onward(j, firsts[i]);
                if (other.isSpan(j) && told(i) == other.told(j)) {
                    common++;
                }
            }
            return common;
        }

        int apartCount() {
            int taken = 0;
            int end = NONE;
            for (int i = 0; i < size; i++) {
                if (firsts[i] > end) {
                    taken++;
                    end = lasts[i];
                }
            }
            return taken;
        }

        int apartNumber(int wanted) {
            int taken = 0;
            int end = NONE;
            for (int i = 0; i < size; i++) {
                if (firsts[i] > end) {
                    if (taken == wanted) {
                        return i;
                    }
                    taken++;
                    end = lasts[i];
                }
            }
            return NONE;
        }
    }

    /** Gathers spans, for each first the least last, and gives the least of them. */
    private static final class Least {
        final int[] lasts = new int[MOST_PLACES];

        void clear() {
            Arrays.fill(lasts, MOST_PLACES);
        }

        void offer(int first, int last) {
            if (first >= 0 && first < MOST_PLACES) {
                lasts[first] = Math.min(lasts[first], last);
            }
        }

        void into(Spans out) {
            int bound = MOST_PLACES;
            for (int first = MOST_PLACES - 1; first >= 0; first--) {
                if (lasts[first] < bound) {
                    bound = lasts[first];
                } else {
                    lasts[first] = MOST_PLACES;
                }
            }
            out.size = 0;
            for (int first = 0; first < MOST_PLACES; first++) {
                if (lasts[first] < MOST_PLACES) {
                    out.add(first, lasts[first]);
                }
            }
        }
    }

    /** The lists of the asks, made when they are wanted and kept while the text is as it was. */
    private static final class Lists {
        final Text page;
        final Asks asks;
        final Spans[] found = new Spans[MOST_ASKS];
        final Spans empty = new Spans();
        final Least least = new Least();
        /** As bits: asks whose lists are found and as they are now. */
        int known;
        int without = NONE;

        Lists(Text page, Asks asks) {
            this.page = page;
            this.asks = asks;
            for (int i = 0; i < MOST_ASKS; i++) {
                found[i] = new Spans();
            }
        }

        void forgetAll() {
            known = 0;
        }

        void forget(int ask) {
            known &= ~(1 << ask);
        }

        Spans of(int ask) {
            if (!asks.isAsk(ask)) {
                return empty;
            }
            int wanted = asks.row[ask].reach & ~known;
            // what an ask is over has a lesser number, and so its list is there ahead of it
            for (int i = 0; i <= ask; i++) {
                if ((wanted >> i & 1) != 0) {
                    make(i);
                }
            }
            known |= wanted;
            return found[ask];
        }

        int sizeWithout(int ask, int word) {
            without = word;
            forgetAll();
            int size = of(ask).size;
            without = NONE;
            forgetAll();
            return size;
        }

        int sizeIf(int ask, int place, int word) {
            int was = page.words[place];
            page.words[place] = word;
            forgetAll();
            int size = of(ask).size;
            page.words[place] = was;
            forgetAll();
            return size;
        }

        private void make(int ask) {
            Ask it = asks.row[ask];
            Spans out = found[ask];
            if (it.kind == WORD || it.kind == PHRASE) {
                findRun(it, out);
            } else if (it.kind == REGION) {
                page.regionsInto(it.number, out);
            } else if (it.kind == SHORT) {
                keepShort(listOf(it.x), it.number, out);
            } else if (it.kind == SOME) {
                least.clear();
                gather(it.number, listOf(it.x), listOf(it.y), listOf(it.z));
                least.into(out);
            } else {
                join(it.kind, listOf(it.x), listOf(it.y), out);
            }
        }

        private Spans listOf(int part) {
            return part >= 0 && part < MOST_ASKS ? found[part] : empty;
        }

        private void findRun(Ask it, Spans out) {
            out.size = 0;
            for (int first = 0; first + it.length <= page.size; first++) {
                int had = 0;
                while (had < it.length && hasWord(first + had, it.run >> 4 * had & MOST_WORDS - 1)) {
                    had++;
                }
                if (had == it.length) {
                    out.add(first, first + had - 1);
                }
            }
        }

        private boolean hasWord(int place, int word) {
            return page.words[place] != without && (page.wordsHad(place) >> word & 1) != 0;
        }

        private void keepShort(Spans x, int n, Spans out) {
            out.size = 0;
            for (int i = 0; i < x.size; i++) {
                if (x.lengthOf(i) <= n) {
                    out.add(x.firsts[i], x.lasts[i]);
                }
            }
        }

        /** The list of a pair; out may be x, but not y. */
        void join(int kind, Spans x, Spans y, Spans out) {
            if (kind >= IN) {
                sift(kind, x, y, out);
                return;
            }
            least.clear();
            if (kind == THEN) {
                follow(x, y);
            } else {
                gather(kind == EITHER ? 1 : 2, x, y, empty);
            }
            least.into(out);
        }

        /**
         * The least last of k lists from each place on. Where no span chosen begins at the place,
         * the next place has the same last, and the least drop the longer span.
         */
        private void gather(int k, Spans x, Spans y, Spans z) {
            int i = 0;
            int j = 0;
            int l = 0;
            for (int first = 0; first < page.size; first++) {
                i = x.onward(i, first);
                j = y.onward(j, first);
                l = z.onward(l, first);
                least.offer(first, ofThree(k, x.lastAt(i), y.lastAt(j), z.lastAt(l)));
            }
        }

        /** The k-th of three numbers, the least one ahead. */
        private static int ofThree(int k, int a, int b, int c) {
            int low = Math.min(a, Math.min(b, c));
            int high = Math.max(a, Math.max(b, c));
            return k == 1 ? low : k == 3 ? high : a + b + c - low - high;
        }

        private void follow(Spans x, Spans y) {
            int j = 0;
            for (int i = 0; i < x.size; i++) {
                j = y.onward(j, x.lasts[i] + 1);
                least.offer(x.firsts[i], y.lastAt(j));
            }
        }

        /** As firsts and lasts both ascend, one span of y decides for each one of x. */
        private void sift(int kind, Spans x, Spans y, Spans out) {
            boolean isOuter = kind == IN || kind == OUT;
            boolean keeps = kind == IN || kind == HAS;
            int size = x.size;
            int j = 0;
            out.size = 0;
            for (int i = 0; i < size; i++) {
                int first = x.firsts[i];
                int last = x.lasts[i];
                j = y.onward(j, isOuter ? first + 1 : first);
                boolean meets = isOuter ? j > 0 && y.lastAt(j - 1) >= last : y.lastAt(j) <= last;
                if (meets == keeps) {
                    out.add(first, last);
                }
            }
        }
    }

    /** The bytes told, and the text that they are. */
    private static final class Tape {
        final int[] bytes = new int[MOST_BYTES];
        int size;

        void push(int letter) {
            if (size < MOST_BYTES) {
                bytes[size] = letter;
                size++;
            }
        }

        static boolean isLetter(int letter) {
            return letter >= 'a' && letter < 'a' + MOST_WORDS;
        }

        static int markOf(int letter) {
            return letter == '.' ? MARK_OF_SENTENCE : letter == '/' ? MARK_OF_PART : 0;
        }

        int letters() {
            int letters = 0;
            for (int i = 0; i < size; i++) {
                letters += isLetter(bytes[i]) ? 1 : 0;
            }
            return letters;
        }

        /** The fault of the tape as a text behind a place with a mark; NONE: it has none. */
        int textFault(int markAhead) {
            int mark = markAhead;
            boolean isBlank = true;
            for (int i = 0; i < size; i++) {
                int letter = bytes[i];
                if (letter == ' ') {
                    continue;
                }
                isBlank = false;
                if (isLetter(letter)) {
                    mark = 0;
                } else if (markOf(letter) > mark) {
                    mark = markOf(letter);
                } else {
                    return i;
                }
            }
            return isBlank ? size : NONE;
        }

        void writeTo(Text page) {
            for (int i = 0; i < size; i++) {
                int letter = bytes[i];
                if (isLetter(letter)) {
                    page.push(letter - 'a');
                } else if (markOf(letter) > 0) {
                    page.markLast(markOf(letter));
                }
            }
        }
    }

    /** Reads an ask from the tape by stacks: brackets may nest deeper than calls should. */
    private static final class AskReader {
        private static final int OPEN = 20;
        private static final int OPEN_SOME = 100;

        final Tape tape;
        final Asks asks;
        /** Asks that are whole and not yet in another one. */
        final int[] wholes = new int[MOST_BYTES];
        /** Kinds of pairs and brackets that wait for what is behind them. */
        final int[] signs = new int[MOST_BYTES];
        int wholeCount;
        int signCount;
        int spot;
        int fault;
        boolean wantsPlain;
        /** How many asks there would be with those that are read. */
        int askCount;

        AskReader(Tape tape, Asks asks) {
            this.tape = tape;
            this.asks = asks;
        }

        /** The fault; NONE: there is none. New asks are put behind the others, but not taken in. */
        int read() {
            wholeCount = 0;
            signCount = 0;
            spot = 0;
            fault = NONE;
            wantsPlain = true;
            askCount = asks.size;
            while (spot < tape.size && fault == NONE) {
                int letter = tape.bytes[spot];
                spot++;
                if (letter == ' ') {
                    continue;
                }
                if (wantsPlain) {
                    readPlain(letter);
                } else {
                    readBehind(letter);
                }
            }
            if (fault == NONE && !wantsPlain) {
                joinDownTo(EITHER);
            }
            if (fault == NONE && (wantsPlain || signCount > 0)) {
                fault = tape.size;
            }
            return fault;
        }

        /** Reads on behind the first byte of a plain. */
        private void readPlain(int letter) {
            int start = spot - 1;
            if (Tape.isLetter(letter)) {
                leaf(WORD, letter - 'a', 1);
            } else if (letter == 'S') {
                leaf(REGION, 0, 0);
            } else if (letter == 'P') {
                leaf(REGION, 1, 0);
            } else if (letter == 'T') {
                leaf(REGION, 2, 0);
            } else if (letter == '\'') {
                readPhrase();
            } else if (letter == '(') {
                pushSign(OPEN);
            } else if (letter == '{') {
                pushSign(OPEN_SOME + 10 * readNumber(3));
            } else {
                fault = start;
            }
        }

        private void readPhrase() {
            int run = 0;
            int length = 0;
            for (; spot < tape.size; spot++) {
                int letter = tape.bytes[spot];
                if (Tape.isLetter(letter) && length < 4) {
                    run |= letter - 'a' << 4 * length;
                    length++;
                } else if (letter == '\'' && length >= 2) {
                    spot++;
                    leaf(PHRASE, run, length);
                    return;
                } else if (letter != ' ') {
                    fault = spot;
                    return;
                }
            }
            fault = tape.size;
        }

        /** A number from 1 to most; 0 with a fault, if none stands there. */
        private int readNumber(int most) {
            while (spot < tape.size && tape.bytes[spot] == ' ') {
                spot++;
            }
            int start = spot;
            int number = 0;
            while (spot < tape.size && tape.bytes[spot] >= '0' && tape.bytes[spot] <= '9') {
                // a third digit makes it too long, whatever it would be
                number = spot - start < 2 ? 10 * number + tape.bytes[spot] - '0' : most + 1;
                spot++;
            }
            if (number < 1 || number > most) {
                fault = start;
                return 0;
            }
            return number;
        }

        /** Reads on behind the first byte that stands behind a plain. */
        private void readBehind(int letter) {
            int start = spot - 1;
            int kind = kindOf(letter);
            if (kind != NONE) {
                joinDownTo(kind);
                pushSign(kind);
                wantsPlain = true;
            } else if (letter == '^') {
                joinDownTo(IN);
                readShort();
            } else {
                joinDownTo(EITHER);
                if (!readClosing(letter)) {
                    fault = start;
                }
            }
        }

        private static int kindOf(int letter) {
            switch (letter) {
                case '|': return EITHER;
                case '&': return BOTH;
                case '<': return THEN;
                case '@': return IN;
                case '!': return OUT;
                case '#': return HAS;
                case '-': return LACKS;
                default: return NONE;
            }
        }

        private void readShort() {
            int n = readNumber(MOST_PLACES);
            if (fault == NONE) {
                over(SHORT, n, popWhole(), NONE, NONE);
            }
        }

        /** Whether a comma or a bracket that closes can stand here; it is read then. */
        private boolean readClosing(int letter) {
            int open = topSign();
            boolean isSome = open >= OPEN_SOME;
            if (letter == ')' && open == OPEN) {
                signCount--;
                return true;
            }
            if (letter == ',' && isSome && open % 10 < 2) {
                signCount--;
                pushSign(open + 1);
                wantsPlain = true;
                return true;
            }
            if (letter == '}' && isSome && open % 10 == 2) {
                signCount--;
                int z = popWhole();
                int y = popWhole();
                int x = popWhole();
                over(SOME, (open - OPEN_SOME) / 10, x, y, z);
                return true;
            }
            return false;
        }

        /** Makes the pairs that wait, back to a bracket or to one that binds less than a kind. */
        private void joinDownTo(int kind) {
            int bond = bondOf(kind);
            while (signCount > 0 && isPair(topSign()) && bondOf(topSign()) >= bond) {
                int joined = topSign();
                signCount--;
                int y = popWhole();
                int x = popWhole();
                over(joined, NONE, x, y, NONE);
            }
        }

        /** The four tests bind alike, and more than the kinds ahead of them. */
        private static int bondOf(int kind) {
            return Math.min(kind, IN);
        }

        private void leaf(int kind, int run, int length) {
            asks.putLeaf(askCount, kind, run, length);
            pushWhole();
            wantsPlain = false;
        }

        private void over(int kind, int number, int x, int y, int z) {
            asks.putOver(askCount, kind, number, x, y, z);
            pushWhole();
        }

        private void pushWhole() {
            if (wholeCount < MOST_BYTES) {
                wholes[wholeCount] = askCount;
                wholeCount++;
            }
            askCount++;
        }

        private int popWhole() {
            if (wholeCount < 1) {
                return NONE;
            }
            wholeCount--;
            return wholes[wholeCount];
        }

        private void pushSign(int sign) {
            if (signCount < MOST_BYTES) {
                signs[signCount] = sign;
                signCount++;
            }
        }

        private int topSign() {
            return signCount > 0 ? signs[signCount - 1] : NONE;
        }
    }
}
