import java.util.ArrayList;
import java.util.List;

/**
 * The document again, in the slowest and plainest way: every span of every definition is made,
 * and the least are picked by their definition. Nothing is kept that can be made anew.
 */
final class Model {
    static final int NONE = -1;

    /** A kind, a number (word, region, n, k), words of a phrase, and the asks it is over. */
    record Ask(int kind, int number, List<Integer> words, List<Integer> over) { }

    record Span(int first, int last) {
        boolean liesIn(Span other) {
            return first >= other.first && last <= other.last;
        }

        int places() {
            return last - first + 1;
        }

        int told() {
            return 100 * first + last;
        }
    }

    /** What an image keeps. */
    static final class State {
        List<int[]> places = new ArrayList<>();
        boolean[][] stands = new boolean[16][16];
        List<Ask> asks = new ArrayList<>();
        int seed = 1;

        State again() {
            State s = new State();
            for (int[] p : places) {
                s.places.add(p.clone());
            }
            for (int i = 0; i < 16; i++) {
                s.stands[i] = stands[i].clone();
            }
            s.asks.addAll(asks);
            s.seed = seed;
            return s;
        }
    }

    State now = new State();
    State kept = null;
    List<Integer> tape = new ArrayList<>();
    Object[] shelves = new Object[8];
    int[] refused = new int[5];

    static final class Row {
        int sort;
        long[] values;
    }

    /** In a shelf: the ask of this number. */
    record Shown(int ask) { }

    // ---- refusals ----

    int no(int number) {
        refused[-2 - number]++;
        return number;
    }

    boolean shelf(int s) {
        return 0 <= s && s <= 7;
    }

    boolean w(int word) {
        return 0 <= word && word <= 15;
    }

    boolean a(int ask) {
        return 0 <= ask && ask < now.asks.size();
    }

    boolean p(int place) {
        return 0 <= place && place < now.places.size();
    }

    boolean between(int low, int n, int high) {
        return low <= n && n <= high;
    }

    // ---- shelves ----

    public int row(int s, int sort, int n) {
        if (!shelf(s) || !between(0, sort, 4) || !between(0, n, 40)) {
            return no(-2);
        }
        Row r = new Row();
        r.sort = sort;
        r.values = new long[n];
        shelves[s] = r;
        return 1;
    }

    public int set(int s, int i, long v) {
        if (!shelf(s)) {
            return no(-2);
        }
        if (shelves[s] instanceof Shown) {
            return no(-3);
        }
        if (shelves[s] == null) {
            return no(-4);
        }
        Row r = (Row) shelves[s];
        if (i < 0 || i >= r.values.length) {
            return no(-2);
        }
        if (r.sort == 0) {
            r.values[i] = (byte) v;
        } else if (r.sort == 1) {
            r.values[i] = (short) v;
        } else if (r.sort == 2) {
            r.values[i] = (int) v;
        } else if (r.sort == 3) {
            r.values[i] = v;
        } else {
            r.values[i] = v != 0 ? 1 : 0;
        }
        return 1;
    }

    public int copy(int p, int q, int i, int j, int n) {
        if (!shelf(p) || !shelf(q)) {
            return no(-2);
        }
        if (shelves[p] instanceof Shown || shelves[q] instanceof Shown) {
            return no(-3);
        }
        if (shelves[p] instanceof Row one && shelves[q] instanceof Row other && one.sort != other.sort) {
            return no(-3);
        }
        if (shelves[p] == null || shelves[q] == null) {
            return no(-4);
        }
        Row from = (Row) shelves[p];
        Row to = (Row) shelves[q];
        long size = from.values.length;
        long room = to.values.length;
        if (i < 0 || j < 0 || n < 0 || (long) i + n > size || (long) j + n > room) {
            return no(-2);
        }
        long[] were = from.values.clone();
        for (int e = 0; e < n; e++) {
            to.values[j + e] = were[i + e];
        }
        return n;
    }

    public long element(int s, int i) {
        if (shelf(s) && shelves[s] instanceof Row r && 0 <= i && i < r.values.length) {
            return r.values[i];
        }
        return 0;
    }

    public int holds(int s) {
        if (!shelf(s) || shelves[s] == null) {
            return NONE;
        }
        return shelves[s] instanceof Row r ? r.sort : 10 + ((Shown) shelves[s]).ask;
    }

    public int show(int s, int ask) {
        if (!shelf(s) || ask != NONE && !a(ask)) {
            return no(-2);
        }
        shelves[s] = ask == NONE ? null : new Shown(ask);
        return 1;
    }

    public int says(int s, int as) {
        if (!shelf(s) || !between(0, as, 6)) {
            return no(-2);
        }
        if (shelves[s] instanceof Row) {
            return no(-3);
        }
        if (shelves[s] == null) {
            return no(-4);
        }
        int ask = ((Shown) shelves[s]).ask;
        Ask it = now.asks.get(ask);
        int kind = it.kind;
        boolean[] fits = {
            true, kind <= 1 || kind == 9, between(2, kind, 8), between(2, kind, 4), between(5, kind, 8),
            kind == 10, kind == 11
        };
        if (!fits[as]) {
            return no(-3);
        }
        if (as == 0) {
            return list(ask).size();
        }
        if (as == 2) {
            return 100 * it.over.get(0) + it.over.get(1);
        }
        if (as == 3) {
            return list(it.over.get(0)).size() + list(it.over.get(1)).size() - list(ask).size();
        }
        if (as == 4) {
            return list(it.over.get(0)).size() - list(ask).size();
        }
        return it.number;
    }

    // ---- text and tape ----

    public int write(int word) {
        if (!w(word)) {
            return no(-2);
        }
        if (now.places.size() == 60) {
            return no(-6);
        }
        now.places.add(new int[] {word, 0});
        return now.places.size() - 1;
    }

    int[] lastPlace() {
        return now.places.get(now.places.size() - 1);
    }

    public int end(int mark) {
        if (mark != 1 && mark != 2) {
            return no(-2);
        }
        if (now.places.isEmpty() || lastPlace()[1] >= mark) {
            return no(-5);
        }
        int was = lastPlace()[1];
        lastPlace()[1] = mark;
        return was;
    }

    public int change(int place, int word) {
        if (!p(place) || !w(word)) {
            return no(-2);
        }
        int was = now.places.get(place)[0];
        now.places.get(place)[0] = word;
        return was;
    }

    public int stand(int word, int other, int is) {
        if (!w(word) || !w(other) || word == other || is != 0 && is != 1) {
            return no(-2);
        }
        int was = now.stands[word][other] ? 1 : 0;
        now.stands[word][other] = is == 1;
        return was;
    }

    public int feed(int letter) {
        if (letter < 0 || letter > 255) {
            return no(-2);
        }
        if (tape.size() == 250) {
            return no(-6);
        }
        tape.add(letter);
        return tape.size();
    }

    public int wipe() {
        int was = tape.size();
        tape.clear();
        return was;
    }

    public int text() {
        State ahead = now.again();
        int before = now.places.size();
        int seen = 0;
        int fault = NONE;
        for (int i = 0; i < tape.size() && fault == NONE; i++) {
            int c = tape.get(i);
            if (c == ' ') {
                continue;
            }
            seen++;
            if (c >= 'a' && c <= 'p') {
                now.places.add(new int[] {c - 'a', 0});
            } else if (c == '.' && !now.places.isEmpty() && lastPlace()[1] == 0) {
                lastPlace()[1] = 1;
            } else if (c == '/' && !now.places.isEmpty() && lastPlace()[1] != 2) {
                lastPlace()[1] = 2;
            } else {
                fault = i;
            }
        }
        if (fault == NONE && seen == 0) {
            fault = tape.size();
        }
        tape.clear();
        if (fault != NONE) {
            now = ahead;
            no(-2);
            return -20 - fault;
        }
        if (now.places.size() > 60) {
            now = ahead;
            return no(-6);
        }
        return now.places.size() - before;
    }

    // ---- the grammar, by descent ----

    static final class Fault extends RuntimeException {
        private static final long serialVersionUID = 1L;
        final int place;

        Fault(int place) {
            super(null, null, false, false);
            this.place = place;
        }
    }

    final class Reading {
        int spot = 0;

        int peek() {
            while (spot < tape.size() && tape.get(spot) == ' ') {
                spot++;
            }
            return spot < tape.size() ? tape.get(spot) : NONE;
        }

        int more(Ask ask) {
            now.asks.add(ask);
            return now.asks.size() - 1;
        }

        int pairs(int level) {
            if (level == 3) {
                return test();
            }
            int x = pairs(level + 1);
            while (peek() == "|&<".charAt(level)) {
                spot++;
                int y = pairs(level + 1);
                x = more(new Ask(2 + level, NONE, List.of(), List.of(x, y)));
            }
            return x;
        }

        int test() {
            int x = plain();
            while (true) {
                int c = peek();
                int kind = c == NONE ? -1 : "@!#-".indexOf(c);
                if (kind >= 0) {
                    spot++;
                    int y = plain();
                    x = more(new Ask(5 + kind, NONE, List.of(), List.of(x, y)));
                } else if (c == '^') {
                    spot++;
                    int n = number(60);
                    x = more(new Ask(10, n, List.of(), List.of(x)));
                } else {
                    return x;
                }
            }
        }

        int plain() {
            int c = peek();
            int at = spot;
            spot++;
            if (c >= 'a' && c <= 'p') {
                return more(new Ask(0, c - 'a', List.of(c - 'a'), List.of()));
            }
            switch (c) {
                case 'S': return more(new Ask(9, 0, List.of(), List.of()));
                case 'P': return more(new Ask(9, 1, List.of(), List.of()));
                case 'T': return more(new Ask(9, 2, List.of(), List.of()));
                case '(': {
                    int x = pairs(0);
                    want(')');
                    return x;
                }
                case '{': {
                    int k = number(3);
                    int x = pairs(0);
                    want(',');
                    int y = pairs(0);
                    want(',');
                    int z = pairs(0);
                    want('}');
                    return more(new Ask(11, k, List.of(), List.of(x, y, z)));
                }
                case '\'': return phrase();
                default: throw new Fault(c == NONE ? tape.size() : at);
            }
        }

        int phrase() {
            List<Integer> words = new ArrayList<>();
            while (true) {
                int c = peek();
                if (c >= 'a' && c <= 'p' && words.size() < 4) {
                    words.add(c - 'a');
                    spot++;
                } else if (c == '\'' && words.size() >= 2) {
                    spot++;
                    return more(new Ask(1, words.get(0), words, List.of()));
                } else {
                    throw new Fault(spot);
                }
            }
        }

        void want(int letter) {
            if (peek() != letter) {
                throw new Fault(spot);
            }
            spot++;
        }

        int number(int most) {
            peek();
            int at = spot;
            StringBuilder digits = new StringBuilder();
            while (spot < tape.size() && tape.get(spot) >= '0' && tape.get(spot) <= '9') {
                digits.append((char) tape.get(spot).intValue());
                spot++;
            }
            if (digits.length() < 1 || digits.length() > 2) {
                throw new Fault(at);
            }
            int n = Integer.parseInt(digits.toString());
            if (n < 1 || n > most) {
                throw new Fault(at);
            }
            return n;
        }
    }

    public int ask() {
        List<Ask> ahead = new ArrayList<>(now.asks);
        try {
            Reading reading = new Reading();
            reading.pairs(0);
            if (reading.peek() != NONE) {
                throw new Fault(reading.spot);
            }
        } catch (Fault fault) {
            now.asks = ahead;
            tape.clear();
            no(-2);
            return -20 - fault.place;
        }
        tape.clear();
        if (now.asks.size() > 24) {
            now.asks = ahead;
            return no(-6);
        }
        return now.asks.size() - 1;
    }

    // ---- new asks ----

    int more(Ask ask) {
        if (now.asks.size() == 24) {
            return no(-6);
        }
        now.asks.add(ask);
        return now.asks.size() - 1;
    }

    public int word(int word) {
        return w(word) ? more(new Ask(0, word, List.of(word), List.of())) : no(-2);
    }

    public int phrase(int s, int n) {
        if (!shelf(s) || !between(2, n, 4)) {
            return no(-2);
        }
        int no = rowWith(s, n);
        if (no != 0) {
            return no(no);
        }
        List<Integer> words = new ArrayList<>();
        for (int i = 0; i < n; i++) {
            long v = ((Row) shelves[s]).values[i];
            if (v < 0 || v > 15) {
                return no(-5);
            }
            words.add((int) v);
        }
        return more(new Ask(1, words.get(0), words, List.of()));
    }

    int rowWith(int s, int n) {
        if (shelves[s] instanceof Shown) {
            return -3;
        }
        if (shelves[s] == null) {
            return -4;
        }
        return ((Row) shelves[s]).values.length < n ? -2 : 0;
    }

    public int pair(int kind, int x, int y) {
        if (!between(2, kind, 8) || !a(x) || !a(y)) {
            return no(-2);
        }
        return more(new Ask(kind, NONE, List.of(), List.of(x, y)));
    }

    public int region(int region) {
        return between(0, region, 2) ? more(new Ask(9, region, List.of(), List.of())) : no(-2);
    }

    public int brief(int x, int n) {
        return a(x) && between(1, n, 60) ? more(new Ask(10, n, List.of(), List.of(x))) : no(-2);
    }

    public int some(int k, int x, int y, int z) {
        if (!between(1, k, 3) || !a(x) || !a(y) || !a(z)) {
            return no(-2);
        }
        return more(new Ask(11, k, List.of(), List.of(x, y, z)));
    }

    public int drop() {
        if (now.asks.isEmpty()) {
            return no(-5);
        }
        now.asks.remove(now.asks.size() - 1);
        clearShelves();
        return now.asks.size();
    }

    void clearShelves() {
        for (int s = 0; s < 8; s++) {
            if (shelves[s] instanceof Shown shown && !a(shown.ask)) {
                shelves[s] = null;
            }
        }
    }

    // ---- lists ----

    int without = NONE;

    boolean has(int place, int word) {
        int had = now.places.get(place)[0];
        return had != without && (had == word || now.stands[had][word]);
    }

    List<Span> list(int ask) {
        List<List<Span>> lists = new ArrayList<>();
        boolean[] wanted = new boolean[ask + 1];
        wanted[ask] = true;
        for (int i = ask; i >= 0; i--) {
            if (wanted[i]) {
                for (int part : now.asks.get(i).over) {
                    wanted[part] = true;
                }
            }
        }
        for (int i = 0; i <= ask; i++) {
            lists.add(wanted[i] ? listOver(now.asks.get(i), lists) : null);
        }
        return lists.get(ask);
    }

    List<Span> listOver(Ask it, List<List<Span>> lists) {
        List<Span> list = new ArrayList<>();
        int size = now.places.size();
        List<List<Span>> over = new ArrayList<>();
        for (int part : it.over) {
            over.add(lists.get(part));
        }
        switch (it.kind) {
            case 0:
            case 1:
                for (int first = 0; first < size; first++) {
                    boolean is = first + it.words.size() <= size;
                    for (int i = 0; is && i < it.words.size(); i++) {
                        is = has(first + i, it.words.get(i));
                    }
                    if (is) {
                        list.add(new Span(first, first + it.words.size() - 1));
                    }
                }
                return list;
            case 9:
                return regions(it.number);
            case 10:
                for (Span span : over.get(0)) {
                    if (span.places() <= it.number) {
                        list.add(span);
                    }
                }
                return list;
            case 11:
                return someOf(it.number, over);
            default:
                return paired(it.kind, over.get(0), over.get(1));
        }
    }

    List<Span> regions(int region) {
        List<Span> list = new ArrayList<>();
        int size = now.places.size();
        int first = 0;
        for (int place = 0; place < size; place++) {
            int mark = now.places.get(place)[1];
            boolean ends = region == 0 && mark >= 1 || region == 1 && mark == 2 || place == size - 1;
            if (ends) {
                list.add(new Span(first, place));
                first = place + 1;
            }
        }
        return list;
    }

    List<Span> paired(int kind, List<Span> x, List<Span> y) {
        List<Span> all = new ArrayList<>();
        if (kind == 2) {
            all.addAll(x);
            all.addAll(y);
            return least(all);
        }
        if (kind == 3 || kind == 4) {
            for (Span one : x) {
                for (Span other : y) {
                    if (kind == 3) {
                        all.add(new Span(Math.min(one.first, other.first), Math.max(one.last, other.last)));
                    } else if (other.first > one.last) {
                        all.add(new Span(one.first, other.last));
                    }
                }
            }
            return least(all);
        }
        for (Span one : x) {
            boolean lies = y.stream().anyMatch(one::liesIn);
            boolean holds = y.stream().anyMatch(other -> other.liesIn(one));
            if (kind == 5 && lies || kind == 6 && !lies || kind == 7 && holds || kind == 8 && !holds) {
                all.add(one);
            }
        }
        return all;
    }

    List<Span> someOf(int k, List<List<Span>> over) {
        List<Span> all = new ArrayList<>();
        for (int i = 0; i < 3; i++) {
            for (Span one : over.get(i)) {
                if (k == 1) {
                    all.add(one);
                }
                for (int j = i + 1; k > 1 && j < 3; j++) {
                    for (Span other : over.get(j)) {
                        Span two = new Span(Math.min(one.first, other.first), Math.max(one.last, other.last));
                        if (k == 2) {
                            all.add(two);
                        }
                        for (int l = j + 1; k > 2 && l < 3; l++) {
                            for (Span third : over.get(l)) {
                                all.add(new Span(Math.min(two.first, third.first), Math.max(two.last, third.last)));
                            }
                        }
                    }
                }
            }
        }
        return least(all);
    }

    /** Of spans, each once, those in which no other one lies, by their firsts. */
    static List<Span> least(List<Span> all) {
        boolean[][] there = new boolean[60][60];
        for (Span span : all) {
            there[span.first][span.last] = true;
        }
        // in[f][l]: how many of them lie in f to l
        int[][] in = new int[62][62];
        for (int f = 59; f >= 0; f--) {
            for (int l = 0; l < 60; l++) {
                int before = l == 0 ? 0 : in[f][l - 1] - in[f + 1][l - 1];
                in[f][l] = in[f + 1][l] + before + (there[f][l] ? 1 : 0);
            }
        }
        List<Span> list = new ArrayList<>();
        for (int f = 0; f < 60; f++) {
            for (int l = f; l < 60; l++) {
                if (there[f][l] && in[f][l] == 1) {
                    list.add(new Span(f, l));
                }
            }
        }
        return list;
    }

    // ---- what there is ----

    long weight(int ask) {
        long[] weights = new long[ask + 1];
        for (int i = 0; i <= ask; i++) {
            weights[i] = 1;
            for (int part : now.asks.get(i).over) {
                weights[i] += weights[part];
            }
        }
        return weights[ask];
    }

    int depth(int ask) {
        int[] depths = new int[ask + 1];
        for (int i = 0; i <= ask; i++) {
            for (int part : now.asks.get(i).over) {
                depths[i] = Math.max(depths[i], 1 + depths[part]);
            }
        }
        return depths[ask];
    }

    int wordBits(int ask) {
        int[] bits = new int[ask + 1];
        for (int i = 0; i <= ask; i++) {
            for (int word : now.asks.get(i).words) {
                bits[i] |= 1 << word;
            }
            for (int part : now.asks.get(i).over) {
                bits[i] |= bits[part];
            }
        }
        return bits[ask];
    }

    public int askOf(int ask, int what) {
        if (!a(ask) || !between(0, what, 7)) {
            return no(-2);
        }
        Ask it = now.asks.get(ask);
        if (what == 0) {
            return it.kind;
        }
        if (what <= 3) {
            return it.over.size() >= what ? it.over.get(what - 1) : NONE;
        }
        if (what == 4) {
            return it.number;
        }
        if (what == 5) {
            return (int) Math.min(1000000L, weight(ask));
        }
        return what == 6 ? depth(ask) : wordBits(ask);
    }

    int regionOf(int place, int region) {
        List<Span> regions = regions(region);
        for (int i = 0; i < regions.size(); i++) {
            if (regions.get(i).first <= place && place <= regions.get(i).last) {
                return i;
            }
        }
        throw new IllegalStateException();
    }

    public int placeOf(int place, int what) {
        if (!p(place) || !between(0, what, 4)) {
            return no(-2);
        }
        if (what <= 1) {
            return now.places.get(place)[what];
        }
        if (what <= 3) {
            return regionOf(place, what - 2);
        }
        int bits = 0;
        for (int word = 0; word < 16; word++) {
            bits |= has(place, word) ? 1 << word : 0;
        }
        return bits;
    }

    public int many(int ask) {
        return a(ask) ? list(ask).size() : no(-2);
    }

    public int span(int ask, int i) {
        if (!a(ask) || i < 0 || i >= list(ask).size()) {
            return no(-2);
        }
        return list(ask).get(i).told();
    }

    public int next(int ask, int p, int what) {
        if (!a(ask) || !between(0, what, 3)) {
            return no(-2);
        }
        List<Span> list = list(ask);
        int last = NONE;
        for (int i = 0; i < list.size(); i++) {
            Span span = list.get(i);
            if (what == 0 && span.first >= p || what == 1 && span.last >= p) {
                return i;
            }
            if (what == 2 && span.last <= p || what == 3 && span.first <= p) {
                last = i;
            }
        }
        return last;
    }

    int countAt(List<Span> list, int place) {
        int count = 0;
        for (Span span : list) {
            count += span.first <= place && place <= span.last ? 1 : 0;
        }
        return count;
    }

    public int at(int ask, int place) {
        return a(ask) && p(place) ? countAt(list(ask), place) : no(-2);
    }

    public int crowd(int ask) {
        if (!a(ask)) {
            return no(-2);
        }
        List<Span> list = list(ask);
        if (list.isEmpty()) {
            return NONE;
        }
        int best = 0;
        for (int place = 1; place < now.places.size(); place++) {
            if (countAt(list, place) > countAt(list, best)) {
                best = place;
            }
        }
        return best;
    }

    public int cover(int ask, int what) {
        if (!a(ask) || !between(0, what, 2)) {
            return no(-2);
        }
        StringBuilder map = new StringBuilder();
        List<Span> list = list(ask);
        for (int place = 0; place < now.places.size(); place++) {
            map.append(countAt(list, place) > 0 ? 'x' : 'o');
        }
        int covered = map.toString().replace("o", "").length();
        if (what < 2) {
            return what == 0 ? covered : map.length() - covered;
        }
        int longest = 0;
        for (String run : map.toString().split("x")) {
            longest = Math.max(longest, run.length());
        }
        return longest;
    }

    public int lengths(int ask, int what) {
        if (!a(ask) || !between(0, what, 2)) {
            return no(-2);
        }
        java.util.stream.IntStream lengths = list(ask).stream().mapToInt(Span::places);
        return what == 0 ? lengths.min().orElse(0) : what == 1 ? lengths.max().orElse(0) : lengths.sum();
    }

    public int apart(int ask, int i) {
        if (!a(ask)) {
            return no(-2);
        }
        List<Span> list = list(ask);
        List<Integer> taken = new ArrayList<>();
        int behind = -1;
        for (int n = 0; n < list.size(); n++) {
            if (list.get(n).first > behind) {
                taken.add(n);
                behind = list.get(n).last;
            }
        }
        return toldOf(taken, i);
    }

    int toldOf(List<Integer> numbers, int i) {
        if (i == NONE) {
            return numbers.size();
        }
        return i >= 0 && i < numbers.size() ? numbers.get(i) : no(-2);
    }

    public int pins(int ask, int i) {
        if (!a(ask)) {
            return no(-2);
        }
        List<Integer> pins = new ArrayList<>();
        for (Span span : list(ask)) {
            boolean pinned = false;
            for (int pin : pins) {
                pinned |= span.first <= pin && pin <= span.last;
            }
            if (!pinned) {
                pins.add(span.last);
            }
        }
        return toldOf(pins, i);
    }

    int scoreOf(int ask, int part) {
        int score = 0;
        for (Span span : list(ask)) {
            if (span.liesIn(regions(1).get(part))) {
                score += 5040 / span.places();
            }
        }
        return score;
    }

    public int score(int ask, int part) {
        if (!a(ask) || part < 0 || part >= regions(1).size()) {
            return no(-2);
        }
        return scoreOf(ask, part);
    }

    public int rank(int ask, int i) {
        int parts = regions(1).size();
        if (!a(ask) || i < 0 || i >= parts) {
            return no(-2);
        }
        List<int[]> order = new ArrayList<>();
        for (int part = 0; part < parts; part++) {
            order.add(new int[] {part, scoreOf(ask, part)});
        }
        order.sort((one, other) -> other[1] - one[1]);
        return order.get(i)[0];
    }

    public int window(int ask, int n, int what) {
        if (!a(ask) || !between(1, n, 60) || !between(0, what, 1)) {
            return no(-2);
        }
        int size = now.places.size();
        int best = 0;
        int most = -1;
        for (int first = 0; first == 0 || first + n <= size; first++) {
            Span window = new Span(first, size <= n ? size - 1 : first + n - 1);
            int count = 0;
            for (Span span : list(ask)) {
                count += span.liesIn(window) ? 1 : 0;
            }
            if (count > most) {
                most = count;
                best = first;
            }
        }
        return what == 0 ? best : most;
    }

    // ---- lists beside lists ----

    public int gap(int x, int y) {
        if (!a(x) || !a(y)) {
            return no(-2);
        }
        int fewest = Integer.MAX_VALUE;
        for (Span one : list(x)) {
            for (Span other : list(y)) {
                int places = 0;
                for (int place = 0; place < now.places.size(); place++) {
                    boolean between = place > one.last && place < other.first
                        || place > other.last && place < one.first;
                    places += between ? 1 : 0;
                }
                fewest = Math.min(fewest, places);
            }
        }
        return fewest == Integer.MAX_VALUE ? NONE : fewest;
    }

    public int under(int x, int y, int what) {
        if (!a(x) || !a(y) || !between(0, what, 2)) {
            return no(-2);
        }
        int count = 0;
        List<Span> others = list(y);
        for (Span one : list(x)) {
            boolean lies = false;
            boolean holds = false;
            for (Span other : others) {
                lies |= one.liesIn(other);
                holds |= other.liesIn(one);
            }
            boolean fits = what == 0 ? lies : what == 1 ? holds : others.contains(one);
            count += fits ? 1 : 0;
        }
        return count;
    }

    public int alike(int x, int y) {
        if (!a(x) || !a(y)) {
            return no(-2);
        }
        List<Span> one = list(x);
        List<Span> other = list(y);
        for (int i = 0; i < 60; i++) {
            Span of = i < one.size() ? one.get(i) : null;
            Span oo = i < other.size() ? other.get(i) : null;
            if (!java.util.Objects.equals(of, oo)) {
                return i;
            }
        }
        return NONE;
    }

    public int same(int ask) {
        if (!a(ask)) {
            return no(-2);
        }
        int least = 0;
        while (!list(least).equals(list(ask))) {
            least++;
        }
        return least;
    }

    public int inside(int ask) {
        if (!a(ask)) {
            return no(-2);
        }
        int bits = 0;
        List<Span> list = list(ask);
        for (int other = 0; other < now.asks.size(); other++) {
            boolean all = true;
            for (Span span : list(other)) {
                all &= list.stream().anyMatch(span::liesIn);
            }
            bits |= all ? 1 << other : 0;
        }
        return bits;
    }

    // ---- what a word does ----

    public int words(int ask, int what) {
        if (!a(ask) || !between(0, what, 2)) {
            return no(-2);
        }
        int size = list(ask).size();
        int bits = 0;
        for (int word = 0; word < 16; word++) {
            without = word;
            int left = list(ask).size();
            without = NONE;
            boolean fits = what == 0 ? left == 0 : what == 1 ? left > size : left < size;
            bits |= fits ? 1 << word : 0;
        }
        return bits;
    }

    int sizeIf(int ask, int place, int word) {
        State was = now;
        now = now.again();
        now.places.get(place)[0] = word;
        int size = list(ask).size();
        now = was;
        return size;
    }

    public int whatIf(int ask, int place, int word) {
        return a(ask) && p(place) && w(word) ? sizeIf(ask, place, word) : no(-2);
    }

    public int bestWord(int ask, int place) {
        if (!a(ask) || !p(place)) {
            return no(-2);
        }
        int best = 0;
        int[] sizes = new int[16];
        for (int word = 0; word < 16; word++) {
            sizes[word] = sizeIf(ask, place, word);
            best = sizes[word] > sizes[best] ? word : best;
        }
        return best;
    }

    // ---- lists told ----

    int judged(List<Span> list, int s, int n) {
        long[] v = ((Row) shelves[s]).values;
        for (int i = 0; i < n; i++) {
            if (i >= list.size() || list.get(i).first != v[2 * i] || list.get(i).last != v[2 * i + 1]) {
                return i;
            }
        }
        return list.size() > n ? n : NONE;
    }

    public int kinds(int x, int y, int s, int n) {
        if (!a(x) || !a(y) || !shelf(s) || !between(0, n, 20)) {
            return no(-2);
        }
        int no = rowWith(s, 2 * n);
        if (no != 0) {
            return no(no);
        }
        int bits = 0;
        for (int kind = 2; kind <= 8; kind++) {
            bits |= judged(paired(kind, list(x), list(y)), s, n) == NONE ? 1 << kind : 0;
        }
        return bits;
    }

    public int judge(int ask, int s, int n) {
        if (!a(ask) || !shelf(s) || !between(0, n, 20)) {
            return no(-2);
        }
        int no = rowWith(s, 2 * n);
        return no != 0 ? no(no) : judged(list(ask), s, n);
    }

    public int leap(int ask, int s, int n) {
        if (!a(ask) || !shelf(s) || !between(0, n, 40)) {
            return no(-2);
        }
        int no = rowWith(s, n);
        if (no != 0) {
            return no(no);
        }
        List<Span> list = list(ask);
        int cursor = 0;
        for (int i = 0; i < n; i++) {
            while (cursor < list.size() && list.get(cursor).first < ((Row) shelves[s]).values[i]) {
                cursor++;
            }
        }
        return cursor < list.size() ? cursor : NONE;
    }

    public int fold(int kind, int s, int n, int i) {
        if (!between(2, kind, 8) || !shelf(s) || !between(1, n, 6) || i < NONE) {
            return no(-2);
        }
        int no = rowWith(s, n);
        if (no != 0) {
            return no(no);
        }
        long[] told = ((Row) shelves[s]).values;
        for (int e = 0; e < n; e++) {
            if (told[e] < 0 || told[e] >= now.asks.size()) {
                return no(-5);
            }
        }
        List<Span> list = list((int) told[0]);
        for (int e = 1; e < n; e++) {
            list = paired(kind, list, list((int) told[e]));
        }
        if (i == NONE) {
            return list.size();
        }
        return i < list.size() ? list.get(i).told() : NONE;
    }

    // ---- days, images, status ----

    int draw(int n) {
        now.seed = now.seed * 1103515245 + 12345;
        return (now.seed >>> 16) % n;
    }

    public int days(int n) {
        if (!between(1, n, 60)) {
            return no(-2);
        }
        for (int day = 0; day < n; day++) {
            int word = draw(16);
            if (now.places.size() < 60) {
                now.places.add(new int[] {word, 0});
            } else {
                now.places.get(draw(60))[0] = word;
            }
            int drawn = draw(8);
            if (drawn == 0) {
                lastPlace()[1] = 2;
            } else if ((drawn == 1 || drawn == 2) && lastPlace()[1] == 0) {
                lastPlace()[1] = 1;
            }
        }
        return now.places.size();
    }

    public int seed(int v) {
        int was = now.seed;
        now.seed = v;
        return was;
    }

    public int image() {
        kept = now.again();
        return 1;
    }

    public int back() {
        if (kept == null) {
            return no(-5);
        }
        now = kept.again();
        clearShelves();
        return 1;
    }

    public int status(int what) {
        switch (what) {
            case 0: return now.places.size();
            case 1: return regions(0).size();
            case 2: return regions(1).size();
            case 3: return now.asks.size();
            case 4: return (int) now.places.stream().map(place -> place[0]).distinct().count();
            case 5: {
                int twos = 0;
                for (boolean[] row : now.stands) {
                    for (boolean is : row) {
                        twos += is ? 1 : 0;
                    }
                }
                return twos;
            }
            case 6: return tape.size();
            case 7: return now.seed;
            case 8: return (int) java.util.Arrays.stream(shelves).filter(held -> held != null).count();
            default: return between(12, what, 16) ? refused[what - 12] : NONE;
        }
    }
}
