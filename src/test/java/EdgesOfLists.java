/** Boundary cases of promises 26 to 37: what comes of one list. */
final class EdgesOfLists extends Edges {
    private EdgesOfLists() { }

    static void all() {
        many();
        span();
        next();
        at();
        crowd();
        cover();
        lengths();
        apart();
        pins();
        score();
        rank();
        window();
    }

    /** Ask 0: a's, the 60 places; 1 the text; 2 runs 'aaa', 58 of them; 3 none. */
    private static void sixty() {
        again();
        places(60, 0);
        x.word(0);
        x.region(2);
        ask("'aaa'");
        x.word(1);
    }

    private static void many() {
        in("Promise 26");
        edge("How many SPANS the LIST of an ASK has.", () -> {
            words(24);
            due(0, x.many(0));
            due(0, x.many(23));
            x.write(7);
            due(0, x.many(0));
            due(1, x.many(23));
            places(59, 7);
            due(60, x.many(23));
            // the list is that of the text as it is now
            x.change(0, 0);
            due(59, x.many(23));
            due(1, x.many(0));
            x.stand(0, 7, 1);
            due(60, x.many(23));
            x.stand(0, 7, 0);
            due(59, x.many(23));
            again();
            x.region(0);
            places(2, 0);
            due(1, x.many(0));
            x.end(1);
            due(1, x.many(0));
            text("b");
            due(2, x.many(0));
            x.image();
            text("./c");
            due(3, x.many(0));
            x.back();
            due(2, x.many(0));
            x.days(1);
            due(2, x.many(0));
        });
        edge("BAD.", () -> noAsk(ask -> () -> x.many(ask)));
    }

    private static void span() {
        in("Promise 27");
        edge("The i-th SPAN: 100 times FIRST, and LAST.", () -> {
            sixty();
            due(0, x.span(0, 0));
            due(101, x.span(0, 1));
            due(5959, x.span(0, 59));
            due(59, x.span(1, 0));
            due(2, x.span(2, 0));
            due(5759, x.span(2, 57));
        });
        edge("BAD: also no i-th.", () -> {
            noAsk(ask -> () -> x.span(ask, 0));
            // ask 5 has three spans, ask 3 of regions three, one more of none
            beyond(Edges::busy, 0, 2, i -> () -> x.span(5, i));
            beyond(() -> { busy(); x.word(15); }, 0, -1, i -> () -> x.span(8, i));
            beyond(EdgesOfLists::sixty, 0, 59, i -> () -> x.span(0, i));
            beyond(EdgesOfLists::sixty, 0, 0, i -> () -> x.span(1, i));
            beyond(EdgesOfLists::sixty, 0, -1, i -> () -> x.span(3, i));
        });
    }

    private static void next() {
        in("Promise 28");
        edge("NEXT; NONE.", () -> {
            sixty();
            int n = NONE;
            int[] ps = {MIN, -1, 0, 1, 2, 57, 58, 59, 60, MAX};
            int[][][] want = {
                {{0, 0, 0, 1, 2, 57, 58, 59, n, n}, {0, 0, 0, 1, 2, 57, 58, 59, n, n},
                    {n, n, 0, 1, 2, 57, 58, 59, 59, 59}, {n, n, 0, 1, 2, 57, 58, 59, 59, 59}},
                {{0, 0, 0, n, n, n, n, n, n, n}, {0, 0, 0, 0, 0, 0, 0, 0, n, n},
                    {n, n, n, n, n, n, n, 0, 0, 0}, {n, n, 0, 0, 0, 0, 0, 0, 0, 0}},
                {{0, 0, 0, 1, 2, 57, n, n, n, n}, {0, 0, 0, 0, 0, 55, 56, 57, n, n},
                    {n, n, n, n, 0, 55, 56, 57, 57, 57}, {n, n, 0, 1, 2, 57, 57, 57, 57, 57}}
            };
            for (int ask = 0; ask < 3; ask++) {
                for (int what = 0; what <= 3; what++) {
                    for (int i = 0; i < ps.length; i++) {
                        due(want[ask][what][i], x.next(ask, ps[i], what));
                    }
                }
            }
        });
        edge("BAD ask, what.", () -> {
            noAsk(ask -> () -> x.next(ask, 0, 0));
            beyond(Edges::busy, 0, 3, what -> () -> x.next(0, 0, what));
            beyond(Edges::busy, 0, 3, what -> () -> x.next(0, MAX, what));
        });
        edge("(NONE isn't refused.)", () -> changesNothing(Edges::busy, () -> {
            due(NONE, x.next(0, 60, 0));
            due(NONE, x.next(0, MAX, 1));
            due(NONE, x.next(0, -1, 2));
            due(NONE, x.next(0, MIN, 3));
        }));
    }

    private static void at() {
        in("Promise 29");
        edge("How many SPANS have a PLACE in them.", () -> {
            sixty();
            int[][] want = {{1, 1, 1, 1, 1, 1}, {1, 1, 1, 1, 1, 1}, {1, 2, 3, 3, 2, 1}, {0, 0, 0, 0, 0, 0}};
            int[] places = {0, 1, 2, 57, 58, 59};
            for (int ask = 0; ask < 4; ask++) {
                for (int i = 0; i < 6; i++) {
                    due(want[ask][i], x.at(ask, places[i]));
                }
            }
        });
        edge("How many SPANS have a PLACE in them. BAD.", () -> {
            noAsk(ask -> () -> x.at(ask, 0));
            beyond(Edges::busy, 0, 5, place -> () -> x.at(0, place));
            beyond(Edges::full, 0, 59, place -> () -> x.at(0, place));
            beyond(() -> words(1), 0, -1, place -> () -> x.at(0, place));
        });
    }

    private static void crowd() {
        in("Promise 30");
        edge("The PLACE that most SPANS have in them, of several the first;", () -> {
            sixty();
            due(0, x.crowd(0));
            due(0, x.crowd(1));
            due(2, x.crowd(2));
            again();
            places(59, 1);
            x.write(0);
            x.word(0);
            due(59, x.crowd(0));
            again();
            text("ababcdcdc");
            ask("'ab'|'ba'|'cd'|'dc'");
            // 0..1, 1..2, 2..3, 4..5, .. 7..8: two at 1, 2, 5, 6, 7
            due(1, x.crowd(6));
            due(1, x.crowd(1));
            due(5, x.crowd(5));
        });
        edge("NONE: no SPANS.", () -> {
            x.word(0);
            due(NONE, x.crowd(0));
            places(60, 1);
            due(NONE, x.crowd(0));
        });
        edge("BAD.", () -> noAsk(ask -> () -> x.crowd(ask)));
        edge("(NONE isn't refused.)", () -> changesNothing(() -> { busy(); x.word(15); }, () -> due(NONE, x.crowd(8))));
    }

    private static void cover(int ask, int in, int out, int longest) {
        due(in, x.cover(ask, 0));
        due(out, x.cover(ask, 1));
        due(longest, x.cover(ask, 2));
    }

    private static void cover() {
        in("Promise 31");
        edge("How many PLACES are in some SPAN (what 0), in none (1), how long the longest run of those in none is (2).", () -> {
            x.word(0);
            cover(0, 0, 0, 0);
            sixty();
            cover(0, 60, 0, 0);
            cover(1, 60, 0, 0);
            cover(2, 60, 0, 0);
            cover(3, 0, 60, 60);
            // runs at the start, in the middle, at the end; and the first of two that are as long
            again();
            text("bbbaabba");
            ask("a|'aa'");
            cover(0, 3, 5, 3);
            cover(1, 2, 6, 3);
            again();
            text("babbaabbb");
            ask("a|'aa'");
            cover(0, 3, 6, 3);
            cover(1, 2, 7, 4);
            again();
            text("ab");
            ask("a|b");
            cover(0, 1, 1, 1);
            cover(1, 1, 1, 1);
        });
        edge("(2). BAD.", () -> {
            noAsk(ask -> () -> x.cover(ask, 0));
            beyond(Edges::busy, 0, 2, what -> () -> x.cover(0, what));
            beyond(() -> words(1), 0, 2, what -> () -> x.cover(0, what));
        });
    }

    private static void lengths(int ask, int fewest, int most, int together) {
        due(fewest, x.lengths(ask, 0));
        due(most, x.lengths(ask, 1));
        due(together, x.lengths(ask, 2));
    }

    private static void lengths() {
        in("Promise 32");
        edge("The fewest PLACES of a SPAN (what 0), the most (1), all SPANS' together (2);", () -> {
            sixty();
            lengths(0, 1, 1, 60);
            lengths(1, 60, 60, 60);
            lengths(2, 3, 3, 174);
            again();
            // the longest one behind all, and ahead of all
            text("ab.c.def");
            x.region(0);
            lengths(0, 1, 3, 6);
            again();
            text("abc.d.ef");
            x.region(0);
            lengths(0, 1, 3, 6);
            again();
            places(60, 0);
            ask("'aaaa'");
            lengths(0, 4, 4, 228);
        });
        edge("0: no SPANS.", () -> {
            x.word(0);
            lengths(0, 0, 0, 0);
            places(60, 1);
            lengths(0, 0, 0, 0);
            x.region(2);
            x.brief(1, 59);
            lengths(2, 0, 0, 0);
        });
        edge("BAD.", () -> {
            noAsk(ask -> () -> x.lengths(ask, 0));
            beyond(Edges::busy, 0, 2, what -> () -> x.lengths(0, what));
            beyond(() -> words(1), 0, 2, what -> () -> x.lengths(0, what));
        });
    }

    private static void apart() {
        in("Promise 33");
        edge("APART: how many (i NONE), the number of the i-th one in the LIST.", () -> {
            sixty();
            due(60, x.apart(0, NONE));
            due(0, x.apart(0, 0));
            due(59, x.apart(0, 59));
            due(1, x.apart(1, NONE));
            due(0, x.apart(1, 0));
            due(20, x.apart(2, NONE));
            due(0, x.apart(2, 0));
            due(3, x.apart(2, 1));
            due(57, x.apart(2, 19));
            due(0, x.apart(3, NONE));
            again();
            x.word(0);
            due(0, x.apart(0, NONE));
        });
        edge("BAD: no i-th.", () -> {
            noAsk(ask -> () -> x.apart(ask, NONE));
            noAsk(ask -> () -> x.apart(ask, 0));
            beyond(EdgesOfLists::sixty, NONE, 59, i -> () -> x.apart(0, i));
            beyond(EdgesOfLists::sixty, NONE, 0, i -> () -> x.apart(1, i));
            beyond(EdgesOfLists::sixty, NONE, 19, i -> () -> x.apart(2, i));
            beyond(EdgesOfLists::sixty, NONE, -1, i -> () -> x.apart(3, i));
        });
    }

    private static void pins() {
        in("Promise 34");
        edge("PINS: how many (i NONE), the i-th PLACE.", () -> {
            sixty();
            due(60, x.pins(0, NONE));
            due(0, x.pins(0, 0));
            due(59, x.pins(0, 59));
            due(1, x.pins(1, NONE));
            due(59, x.pins(1, 0));
            due(20, x.pins(2, NONE));
            due(2, x.pins(2, 0));
            due(5, x.pins(2, 1));
            due(59, x.pins(2, 19));
            due(0, x.pins(3, NONE));
            again();
            x.word(0);
            due(0, x.pins(0, NONE));
        });
        edge("BAD: no i-th.", () -> {
            noAsk(ask -> () -> x.pins(ask, NONE));
            noAsk(ask -> () -> x.pins(ask, 0));
            beyond(EdgesOfLists::sixty, NONE, 59, i -> () -> x.pins(0, i));
            beyond(EdgesOfLists::sixty, NONE, 0, i -> () -> x.pins(1, i));
            beyond(EdgesOfLists::sixty, NONE, 19, i -> () -> x.pins(2, i));
            beyond(EdgesOfLists::sixty, NONE, -1, i -> () -> x.pins(3, i));
        });
    }

    private static void score() {
        in("Promise 35");
        edge("SCORE.", () -> {
            sixty();
            due(302400, x.score(0, 0));
            due(84, x.score(1, 0));
            due(58 * 1680, x.score(2, 0));
            due(0, x.score(3, 0));
            again();
            text("a/".repeat(60));
            ask("a|'aa'");
            for (int part : new int[] {0, 1, 58, 59}) {
                due(5040, x.score(0, part));
                due(0, x.score(1, part));
            }
            // spans from the first place of a part, to its last, and one place over
            again();
            text("ab/abc/c");
            ask("'ab'|'bc'");
            x.region(2);
            ask("'abc'|'ca'|'cc'");
            due(2520, x.score(0, 0));
            due(2520, x.score(0, 1));
            due(2520, x.score(1, 1));
            due(0, x.score(1, 2));
            due(1680, x.score(4, 1));
            due(0, x.score(3, 1));
            due(0, x.score(7, 1));
            due(0, x.score(7, 2));
        });
        edge("BAD.", () -> {
            noAsk(ask -> () -> x.score(ask, 0));
            beyond(Edges::busy, 0, 1, part -> () -> x.score(0, part));
            beyond(() -> words(1), 0, -1, part -> () -> x.score(0, part));
            beyond(() -> { text("a/".repeat(60)); words(1); }, 0, 59, part -> () -> x.score(0, part));
        });
    }

    private static void rank() {
        in("Promise 36");
        edge("RANK: the i-th PART.", () -> {
            sixty();
            due(0, x.rank(0, 0));
            due(0, x.rank(3, 0));
            again();
            text("b/".repeat(59) + "a/");
            x.word(0);
            x.word(1);
            x.word(2);
            // the last part ahead of all, behind all, and as all
            due(59, x.rank(0, 0));
            due(0, x.rank(0, 1));
            due(58, x.rank(0, 59));
            due(0, x.rank(1, 0));
            due(58, x.rank(1, 58));
            due(59, x.rank(1, 59));
            due(0, x.rank(2, 0));
            due(59, x.rank(2, 59));
        });
        edge("BAD: no i-th.", () -> {
            noAsk(ask -> () -> x.rank(ask, 0));
            beyond(Edges::busy, 0, 1, i -> () -> x.rank(0, i));
            beyond(() -> words(1), 0, -1, i -> () -> x.rank(0, i));
            beyond(() -> { text("a/".repeat(60)); words(1); }, 0, 59, i -> () -> x.rank(0, i));
        });
    }

    private static void window() {
        in("Promise 37");
        edge("WINDOW: its FIRST (what 0; 0 without PLACES), how many SPANS (1).", () -> {
            x.word(0);
            x.region(2);
            for (int n : new int[] {1, 2, 59, 60}) {
                for (int ask = 0; ask < 2; ask++) {
                    due(0, x.window(ask, n, 0));
                    due(0, x.window(ask, n, 1));
                }
            }
            sixty();
            for (int n : new int[] {1, 2, 3, 59, 60}) {
                due(0, x.window(0, n, 0));
                due(n, x.window(0, n, 1));
                due(0, x.window(1, n, 0));
                due(n == 60 ? 1 : 0, x.window(1, n, 1));
                due(0, x.window(2, n, 0));
                due(Math.max(0, n - 2), x.window(2, n, 1));
                due(0, x.window(3, n, 0));
                due(0, x.window(3, n, 1));
            }
            // one place alone, and windows that reach over its end
            again();
            x.write(0);
            x.word(0);
            due(0, x.window(0, 1, 0));
            due(1, x.window(0, 1, 1));
            due(0, x.window(0, 60, 0));
            due(1, x.window(0, 60, 1));
        });
        edge("how many SPANS (1). BAD.", () -> {
            noAsk(ask -> () -> x.window(ask, 1, 0));
            beyond(Edges::busy, 1, 60, n -> () -> x.window(0, n, 1));
            beyond(Edges::busy, 0, 1, what -> () -> x.window(0, 1, what));
            beyond(() -> words(1), 1, 60, n -> () -> x.window(0, n, 0));
        });
    }
}
