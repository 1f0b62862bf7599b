/** Boundary cases of terms 3: what comes of lists, days, and shelves. */
final class EdgesOfTerms3 extends Edges {
    private EdgesOfTerms3() { }

    static void all() {
        in("Terms 3");
        nothingChanges();
        nextAndLeap();
        apartAndPins();
        scores();
        windows();
        gaps();
        words();
        folds();
        days();
        draws();
        shelves();
    }

    private static void nothingChanges() {
        edge("(nothing is changed)", () -> {
            changesNothing(Edges::fresh, EdgesOfTerms3::looksWithoutAsks);
            changesNothing(Edges::busy, EdgesOfTerms3::looksWithoutAsks);
            changesNothing(Edges::busy, EdgesOfTerms3::looksAtOne);
            changesNothing(Edges::busy, EdgesOfTerms3::looksAtTwo);
            changesNothing(Edges::full, EdgesOfTerms3::looksAtOne);
        });
    }

    private static void looksWithoutAsks() {
        x.element(0, 0);
        x.element(0, 40);
        x.holds(0);
        x.holds(8);
        x.status(0);
        x.status(17);
        x.seed(x.seed(3));
    }

    private static void looksAtOne() {
        for (int what = 0; what <= 7; what++) {
            x.askOf(7, what);
        }
        x.placeOf(0, 4);
        x.many(7);
        x.next(7, 70, 0);
        x.at(7, 0);
        x.crowd(7);
        x.cover(7, 2);
        x.lengths(7, 2);
        x.apart(7, NONE);
        x.pins(7, NONE);
        x.score(7, 0);
        x.rank(7, 0);
        x.window(7, 60, 0);
        x.same(7);
        x.inside(7);
        for (int what = 0; what <= 2; what++) {
            x.words(7, what);
        }
        x.whatIf(7, 0, 15);
        x.bestWord(7, 5);
        x.leap(7, 0, 2);
        x.judge(7, 0, 2);
    }

    private static void looksAtTwo() {
        x.gap(5, 7);
        x.under(5, 7, 2);
        x.alike(5, 7);
        x.kinds(5, 7, 0, 2);
        x.fold(4, 0, 3, NONE);
        x.fold(4, 0, 3, 60);
        x.span(5, 0);
        x.says(5, 0);
        x.says(5, 2);
        x.says(5, 3);
    }

    private static void nextAndLeap() {
        edge("NEXT of a LIST by a PLACE p (any number): the number (0 on) of the first SPAN whose FIRST is p or behind (what 0); the first whose LAST is p or behind (1); the last whose LAST is p or ahead (2); the last whose FIRST is p or ahead (3); NONE.", () -> {
            text("abcab");
            ask("'ab'");
            int[] ps = {MIN, MIN + 1, -1, 0, 1, 2, 3, 4, 5, 59, 60, 61, MAX - 1, MAX};
            int n = NONE;
            int[][] want = {
                {0, 0, 0, 0, 1, 1, 1, n, n, n, n, n, n, n},
                {0, 0, 0, 0, 0, 1, 1, 1, n, n, n, n, n, n},
                {n, n, n, n, 0, 0, 0, 1, 1, 1, 1, 1, 1, 1},
                {n, n, n, 0, 0, 0, 1, 1, 1, 1, 1, 1, 1, 1}
            };
            for (int what = 0; what <= 3; what++) {
                for (int i = 0; i < ps.length; i++) {
                    due(want[what][i], x.next(0, ps[i], what));
                }
            }
            x.word(15);
            for (int what = 0; what <= 3; what++) {
                due(NONE, x.next(1, 0, what));
                due(NONE, x.next(1, MIN, what));
                due(NONE, x.next(1, MAX, what));
            }
            due(0, x.status(12));
            again();
            places(60, 0);
            x.word(0);
            for (int what = 0; what <= 3; what++) {
                due(59, x.next(0, 59, what));
                due(what <= 1 ? NONE : 59, x.next(0, 60, what));
                due(0, x.next(0, 0, what));
                due(what <= 1 ? 0 : NONE, x.next(0, -1, what));
            }
        });
        edge("A LEAP: a cursor at SPAN 0 goes, for each told number, to the first SPAN from where it is on whose FIRST isn't less than that: where it is behind all; NONE: there was none such.", () -> {
            text("abcab");
            ask("a|b");
            // firsts 0, 1, 3, 4
            due(0, leap());
            due(0, leap(0));
            due(0, leap(-1));
            due(0, leap(Long.MIN_VALUE));
            due(1, leap(1));
            due(2, leap(2));
            due(3, leap(4));
            due(NONE, leap(5));
            due(NONE, leap(Long.MAX_VALUE));
            due(2, leap(3, 0));
            due(2, leap(3, 3));
            due(3, leap(1, 2, 4));
            due(NONE, leap(5, 0));
            due(0, leap(-(1L << 32) + 4));
            due(NONE, leap(1L << 32));
            due(0, leap(new long[40]));
            x.word(15);
            due(NONE, x.leap(3, 0, 40));
        });
    }

    private static int leap(long... numbers) {
        row(0, 3, numbers);
        return x.leap(2, 0, numbers.length);
    }

    private static void apartAndPins() {
        edge("APART: SPANS, no two with a PLACE in common, as many as can be, by always taking the first one that is behind the one taken last.", () -> {
            x.write(0);
            ask("'aa'");
            due(0, x.apart(0, NONE));
            x.write(0);
            due(1, x.apart(0, NONE));
            due(0, x.apart(0, 0));
            // 1..2 has place 1 in common with 0..1, and 2..3 is next to that
            x.write(0);
            due(1, x.apart(0, NONE));
            x.write(0);
            due(2, x.apart(0, NONE));
            due(2, x.apart(0, 1));
            places(56, 0);
            due(30, x.apart(0, NONE));
            due(58, x.apart(0, 29));
            x.word(0);
            due(60, x.apart(1, NONE));
            due(59, x.apart(1, 59));
        });
        edge("PINS: the fewest PLACES by which each SPAN has one in it: always the LAST of the first SPAN that has none yet.", () -> {
            x.write(0);
            ask("'aa'");
            due(0, x.pins(0, NONE));
            x.write(0);
            due(1, x.pins(0, NONE));
            due(1, x.pins(0, 0));
            // 1..2 has the pin at its first place, 2..3 hasn't
            x.write(0);
            due(1, x.pins(0, NONE));
            x.write(0);
            due(2, x.pins(0, NONE));
            due(3, x.pins(0, 1));
            places(56, 0);
            due(30, x.pins(0, NONE));
            due(59, x.pins(0, 29));
            x.word(0);
            due(60, x.pins(1, NONE));
            due(0, x.pins(1, 0));
            due(59, x.pins(1, 59));
        });
    }

    private static void scores() {
        edge("SCORE of a PART: of each SPAN that lies in it 5040 over how many PLACES that SPAN has (cut), all together.", () -> {
            for (int n = 1; n <= 60; n++) {
                again();
                places(n, 0);
                x.region(2);
                due(5040 / n, x.score(0, 0));
            }
            again();
            due(4, text("ab/ab"));
            ask("'ab'|'ba'|P");
            due(2520, x.score(0, 0));
            due(2520, x.score(0, 1));
            // 1..2 lies in neither
            due(0, x.score(1, 0));
            due(0, x.score(1, 1));
            due(2520, x.score(3, 0));
            x.word(0);
            x.change(1, 0);
            due(10080, x.score(5, 0));
            due(5040, x.score(5, 1));
            // a sentence that ends is no end of a part
            again();
            text("a.b.a/b.");
            ask("a<a|b");
            due(1680, x.score(2, 0));
            due(0, x.score(2, 1));
            due(5040, x.score(3, 0));
            due(5040, x.score(3, 1));
            refused(BAD, () -> { text("a.b.a/b."); words(1); }, () -> x.score(0, 2));
            again();
            places(60, 0);
            x.word(0);
            due(60 * 5040, x.score(0, 0));
            ask("'aaa'");
            due(58 * 1680, x.score(1, 0));
        });
        edge("RANK: PARTS, those of more SCORE ahead, of several the lesser number ahead.", () -> {
            text("b/ab/a/b/aa");
            x.word(0);
            int[] want = {4, 1, 2, 0, 3};
            for (int i = 0; i < 5; i++) {
                due(want[i], x.rank(0, i));
            }
            x.word(15);
            for (int i = 0; i < 5; i++) {
                due(i, x.rank(1, i));
            }
            again();
            text("b./a.b./a.a");
            x.word(0);
            int[] parts = {2, 1, 0};
            for (int i = 0; i < 3; i++) {
                due(parts[i], x.rank(0, i));
            }
            // 252 of the one part and 315 of the other
            again();
            text("a".repeat(20) + "/" + "a".repeat(16));
            x.region(1);
            due(1, x.rank(0, 0));
            due(0, x.rank(0, 1));
        });
    }

    private static void windows() {
        edge("WINDOW of n (1 to 60): of all SPANS of n PLACES (if there are no more than n: of all PLACES) that in which most SPANS of the LIST lie, of several the first.", () -> {
            text("bacab");
            ask("a|'ca'");
            window(0, 1, 1, 1);
            window(0, 2, 0, 1);
            window(0, 3, 1, 2);
            window(0, 4, 0, 2);
            window(0, 5, 0, 2);
            window(0, 6, 0, 2);
            window(0, 60, 0, 2);
            window(1, 1, 0, 0);
            window(1, 2, 2, 1);
            window(1, 3, 1, 1);
            window(1, 4, 0, 1);
            x.region(2);
            window(3, 4, 0, 0);
            window(3, 5, 0, 1);
            window(3, 6, 0, 1);
            again();
            places(59, 1);
            x.write(0);
            x.word(0);
            x.region(2);
            window(0, 1, 59, 1);
            window(0, 2, 58, 1);
            window(0, 59, 1, 1);
            window(0, 60, 0, 1);
            window(1, 59, 0, 0);
            window(1, 60, 0, 1);
            again();
            x.region(2);
            window(0, 1, 0, 0);
            window(0, 60, 0, 0);
            beyond(Edges::busy, 1, 60, n -> () -> x.window(0, n, 0));
            beyond(Edges::fresh, 1, 0, n -> () -> x.window(0, 1, 0));
        });
    }

    private static void window(int ask, int n, int first, int spans) {
        due(first, x.window(ask, n, 0));
        due(spans, x.window(ask, n, 1));
    }

    private static void gaps() {
        edge("GAP of two ASKS: the fewest PLACES between a SPAN of the one and a SPAN of the other (0, if they touch or have one in common); NONE: one of them has no SPANS.", () -> {
            text("abcda");
            ask("'ab'|c|d|p|b");
            int ab = 0;
            int c = 1;
            int d = 3;
            int none = 5;
            int b = 7;
            gap(0, ab, c);
            gap(0, ab, b);
            gap(0, ab, ab);
            gap(1, ab, d);
            gap(1, b, d);
            gap(NONE, ab, none);
            gap(NONE, none, none);
            x.word(0);
            gap(0, 9, d);
            gap(1, 9, c);
            due(0, x.status(12));
            // from the last of the one to the first of the other, however long they are
            again();
            text("abcabcd");
            ask("'abc'|'cd'|d|a@'bca'");
            gap(0, 0, 1);
            gap(0, 0, 3);
            x.change(3, 7);
            x.change(4, 7);
            gap(2, 0, 1);
            gap(2, 1, 0);
            gap(3, 0, 3);
            again();
            x.write(0);
            x.write(1);
            ask("a|b");
            for (int between = 1; between <= 58; between++) {
                gap(between - 1, 0, 1);
                x.change(between, 2);
                x.write(1);
            }
            gap(58, 0, 1);
        });
    }

    private static void gap(int want, int one, int other) {
        due(want, x.gap(one, other));
        due(want, x.gap(other, one));
    }

    private static void words() {
        edge("WITHOUT a WORD: as if no PLACE had it (a PLACE with it would have no WORD at all, nor what it stands for).", () -> {
            text("ab");
            ask("a|b|p");
            x.stand(0, 1, 1);
            // a has b by standing, and without a it has neither
            dueList("0 101", 1);
            due(1, x.words(0, 0));
            due(1, x.words(0, 2));
            due(0, x.words(1, 0));
            due(3, x.words(1, 2));
            due(65535, x.words(3, 0));
            due(0, x.words(3, 1));
            due(0, x.words(3, 2));
            // no place less: sentences, parts and the text are as they were
            x.region(2);
            due(0, x.words(5, 0));
            due(0, x.words(5, 2));
            again();
            x.region(0);
            due(65535, x.words(0, 0));
            due(0, x.words(0, 1) + x.words(0, 2));
        });
        edge("IF a PLACE had another WORD: its MARK is the same.", () -> {
            text("ab.c/d");
            ask("S@P");
            for (int place = 0; place < 4; place++) {
                due(3, x.whatIf(0, place, 15));
                due(2, x.whatIf(1, place, 0));
            }
            x.word(0);
            due(2, x.whatIf(3, 3, 0));
            due(0, x.whatIf(3, 0, 1));
            due(1, x.whatIf(3, 0, 0));
            // what the other word stands for it has then, too
            x.stand(15, 0, 1);
            due(2, x.whatIf(3, 3, 15));
        });
    }

    private static void folds() {
        edge("FOLD of a KIND (2 to 8) of told ASKS, from the left: of the first two, of that and the third, ..; the LIST of the last one (of one: its own).", () -> {
            text("abcabc");
            ask("a|b|c|S");
            row(0, 0, 0, 1, 3, 0, 1, 3);
            for (int kind = 2; kind <= 8; kind++) {
                due(2, x.fold(kind, 0, 1, NONE));
                due(303, x.fold(kind, 0, 1, 1));
            }
            // (a < b) < c, and not a < (b < c)
            due(2, x.fold(4, 0, 3, NONE));
            due(2, x.fold(4, 0, 3, 0));
            due(305, x.fold(4, 0, 3, 1));
            due(1, x.fold(4, 0, 6, NONE));
            due(5, x.fold(4, 0, 6, 0));
            // a, out b, out a: none is left; a, out (b out a) would be all
            row(1, 2, 0, 1, 0);
            due(0, x.fold(6, 1, 3, NONE));
            due(2, x.fold(6, 1, 2, NONE));
            beyond(Edges::busy, 2, 8, kind -> () -> x.fold(kind, 0, 1, 0));
        });
    }

    /** The upper 16 bits of each seed from the next one on. */
    private static int[] drawn(int seed, int n) {
        int[] drawn = new int[n];
        int now = seed;
        for (int i = 0; i < n; i++) {
            now = (int) (now * 1103515245L + 12345L);
            drawn[i] = (int) ((now & 0xffffffffL) / 65536L);
        }
        return drawn;
    }

    private static void days() {
        edge("IN TRUTH a DAY by draws: a DRAW below 16 is a WORD; if there is room, a PLACE more has it (MARK 0), else the PLACE of a DRAW below 60 gets it;", () -> {
            places(59, 0);
            x.seed(77);
            int[] drawn = drawn(77, 5);
            due(60, x.days(1));
            due(drawn[0] % 16, x.placeOf(59, 0));
            x.seed(78);
            drawn = drawn(78, 3);
            due(60, x.days(1));
            due(drawn[0] % 16, x.placeOf(drawn[1] % 60, 0));
            due(60, x.status(0));
            // with room two draws a day, and three without
            again();
            places(58, 0);
            x.seed(5);
            x.days(4);
            int seed = 5;
            for (int draw = 0; draw < 2 + 2 + 3 + 3; draw++) {
                seed = seed * 1103515245 + 12345;
            }
            due(seed, x.status(7));
        });
        edge("then a DRAW below 8: 0: the MARK of the last PLACE becomes 2; 1, 2: it becomes 1, if it is 0.", () -> {
            int[] marked = {2, 1, 1, 0, 0, 0, 0, 0};
            boolean[] seen = new boolean[8];
            for (int seed = 0; seed < 60; seed++) {
                again();
                x.seed(seed);
                x.days(1);
                int draw = drawn(seed, 2)[1] % 8;
                seen[draw] = true;
                due(marked[draw], x.placeOf(0, 1));
            }
            // without room the last place may have a mark: 1, 2 don't take 2 from it
            for (int seed = 0; seed < 60; seed++) {
                int draw = drawn(seed, 3)[2] % 8;
                for (int mark = 0; mark <= 2; mark++) {
                    again();
                    places(60, 0);
                    x.end(mark);
                    x.seed(seed);
                    x.days(1);
                    due(Math.max(mark, marked[draw]), x.placeOf(59, 1));
                }
            }
            for (boolean is : seen) {
                due(1, is ? 1 : 0);
            }
        });
    }

    private static void draws() {
        edge("A DRAW below n: SEED (1 at first) becomes SEED times 1103515245, and 12345 (an int, wrapping); its upper 16 bits, no sign, modulo n.", () -> {
            due(1, x.status(7));
            int negative = 0;
            for (int seed : new int[] {1, 0, -1, MIN, MAX, 2, 3, 1 << 16, 12345, -1103515245}) {
                again();
                x.seed(seed);
                due(1, x.days(1));
                int now = seed * 1103515245 + 12345;
                negative += now < 0 ? 1 : 0;
                due(drawn(seed, 1)[0] % 16, x.placeOf(0, 0));
                due(now * 1103515245 + 12345, x.status(7));
            }
            due(1, negative > 2 ? 1 : 0);
            // by a seed of which the upper half is all ones, or the upper bit alone
            for (int next : new int[] {-1, MIN, MAX, 0, 65535, 65536}) {
                again();
                x.seed(seedAhead(next));
                x.days(1);
                due((next >>> 16) % 16, x.placeOf(0, 0));
            }
            // and a place below 60 of a draw whose upper bit is set
            for (int seed = 0; seed < 20; seed++) {
                again();
                places(60, 0);
                x.seed(seed);
                x.days(1);
                int[] drawn = drawn(seed, 2);
                for (int place = 0; place < 60; place++) {
                    due(place == drawn[1] % 60 ? drawn[0] % 16 : 0, x.placeOf(place, 0));
                }
            }
        });
    }

    /** The seed of which the next one is told: 1103515245 is odd, and so has one that undoes it. */
    private static int seedAhead(int next) {
        int undo = 1;
        for (int i = 0; i < 5; i++) {
            undo *= 2 - 1103515245 * undo;
        }
        return (next - 12345) * undo;
    }

    private static void shelves() {
        edge("SHELVES 0 to 7 hold NOTHING (at first), a ROW, or an ASK.", () -> {
            for (int s = 0; s <= 7; s++) {
                due(NONE, x.holds(s));
            }
            x.word(0);
            for (int s = 0; s <= 7; s++) {
                due(1, x.row(s, 4, 1));
                due(4, x.holds(s));
                due(1, x.show(s, 0));
                due(10, x.holds(s));
                due(1, x.show(s, NONE));
                due(NONE, x.holds(s));
            }
            due(NONE, x.holds(-1));
            due(NONE, x.holds(8));
            beyond(Edges::busy, 0, 7, s -> () -> x.row(s, 0, 1));
            beyond(Edges::busy, 0, 7, s -> () -> x.show(s, 0));
        });
        edge("A ROW has a SORT (0 bytes, 1 shorts, 2 ints, 3 longs, 4 booleans) and 0 to 40 elements (0, or not so, at first);", () -> {
            for (int sort = 0; sort <= 4; sort++) {
                due(1, x.row(0, sort, 40));
                for (int i = 0; i < 40; i++) {
                    due(0, x.element(0, i));
                }
                due(1, x.set(0, 39, 1));
                due(1, x.element(0, 39));
                due(BAD, x.set(0, 40, 1));
                due(1, x.row(0, sort, 0));
                due(sort, x.holds(0));
                due(BAD, x.set(0, 0, 1));
            }
            beyond(Edges::busy, 0, 4, sort -> () -> x.row(0, sort, 1));
            beyond(Edges::busy, 0, 40, n -> () -> x.row(0, 0, n));
        });
        edge("what is put in keeps its lowest bits, with their sign (of booleans: whether it is not 0); told they are numbers (1, 0).", () -> {
            keeps(0, 127, 127);
            keeps(0, 128, -128);
            keeps(0, -128, -128);
            keeps(0, -129, 127);
            keeps(0, 255, -1);
            keeps(0, 256, 0);
            keeps(0, Long.MAX_VALUE, -1);
            keeps(0, Long.MIN_VALUE, 0);
            keeps(1, 32767, 32767);
            keeps(1, 32768, -32768);
            keeps(1, -32768, -32768);
            keeps(1, -32769, 32767);
            keeps(1, 65536, 0);
            keeps(1, Long.MAX_VALUE, -1);
            keeps(2, MAX, MAX);
            keeps(2, MAX + 1L, MIN);
            keeps(2, MIN, MIN);
            keeps(2, MIN - 1L, MAX);
            keeps(2, 1L << 32, 0);
            keeps(2, Long.MAX_VALUE, -1);
            keeps(3, Long.MAX_VALUE, Long.MAX_VALUE);
            keeps(3, Long.MIN_VALUE, Long.MIN_VALUE);
            keeps(3, 1L << 32, 1L << 32);
            keeps(4, 0, 0);
            keeps(4, 1, 1);
            keeps(4, 2, 1);
            keeps(4, -1, 1);
            keeps(4, 256, 1);
            keeps(4, 1L << 32, 1);
            keeps(4, Long.MIN_VALUE, 1);
        });
    }

    private static void keeps(int sort, long told, long kept) {
        x.row(0, sort, 1);
        x.set(0, 0, told);
        due(kept, x.element(0, 0));
        x.set(0, 0, 0);
        due(0, x.element(0, 0));
    }
}
