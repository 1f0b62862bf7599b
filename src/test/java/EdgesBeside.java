import java.util.function.IntFunction;
import java.util.function.LongSupplier;

/** Boundary cases of promises 38 to 49: lists beside lists, what a word does, lists that are told. */
final class EdgesBeside extends Edges {
    private EdgesBeside() { }

    static void all() {
        gap();
        under();
        alike();
        same();
        inside();
        words();
        whatIf();
        bestWord();
        kinds();
        judge();
        leap();
        fold();
        foldRefusals();
    }

    /** Places 0 a to 4 e; asks 0 a, 1 b, 2 'ab', 3 p (without spans), 4 the text. */
    private static void five() {
        again();
        text("abcde");
        x.word(0);
        x.word(1);
        ask("'ab'");
        x.word(15);
        x.region(2);
    }

    private static void gap() {
        in("Promise 38");
        edge("GAP; NONE.", () -> {
            five();
            due(0, x.gap(0, 0));
            due(0, x.gap(0, 1));
            due(0, x.gap(1, 2));
            due(0, x.gap(4, 1));
            due(NONE, x.gap(0, 3));
            due(NONE, x.gap(3, 0));
            due(NONE, x.gap(3, 3));
            x.word(2);
            x.word(4);
            due(1, x.gap(0, 5));
            due(3, x.gap(6, 0));
            due(2, x.gap(2, 6));
            again();
            x.word(0);
            due(NONE, x.gap(0, 0));
            x.write(0);
            places(58, 2);
            x.write(1);
            x.word(1);
            due(58, x.gap(0, 1));
            due(58, x.gap(1, 0));
            // of many spans those that are nearest
            x.change(57, 0);
            due(1, x.gap(0, 1));
        });
        edge("BAD.", () -> {
            noAsk(ask -> () -> x.gap(ask, 0));
            noAsk(ask -> () -> x.gap(0, ask));
        });
        edge("(NONE isn't refused.)", () -> changesNothing(() -> { busy(); x.word(15); }, () -> {
            due(NONE, x.gap(8, 0));
            due(NONE, x.gap(0, 8));
        }));
    }

    private static void under(int one, int other, int lie, int have, int are) {
        due(lie, x.under(one, other, 0));
        due(have, x.under(one, other, 1));
        due(are, x.under(one, other, 2));
    }

    private static void under() {
        in("Promise 39");
        edge("How many SPANS of x lie in one of y (what 0), have one of y in them (1), are such of y, too (2).", () -> {
            five();
            under(0, 0, 1, 1, 1);
            under(0, 2, 1, 0, 0);
            under(1, 2, 1, 0, 0);
            under(2, 0, 0, 1, 0);
            under(2, 1, 0, 1, 0);
            under(0, 1, 0, 0, 0);
            under(0, 3, 0, 0, 0);
            under(3, 0, 0, 0, 0);
            under(3, 3, 0, 0, 0);
            under(2, 4, 1, 0, 0);
            under(4, 2, 0, 1, 0);
            // the same span is of other numbers in the two lists
            again();
            text("abcc");
            ask("a|b|c");
            under(4, 3, 2, 2, 2);
            under(3, 4, 2, 2, 2);
            under(4, 0, 1, 1, 1);
            under(0, 4, 1, 1, 1);
            under(4, 1, 1, 1, 1);
            under(2, 3, 0, 0, 0);
            // without places none has spans
            again();
            words(2);
            under(0, 0, 0, 0, 0);
            under(0, 1, 0, 0, 0);
            again();
            places(60, 0);
            x.word(0);
            x.region(2);
            ask("'aa'");
            under(0, 0, 60, 60, 60);
            under(0, 1, 60, 0, 0);
            under(1, 0, 0, 1, 0);
            under(0, 2, 60, 0, 0);
            under(2, 0, 0, 59, 0);
            // of 0..1, 1..2, .. the same but for the last one
            x.change(59, 1);
            x.region(0);
            under(0, 3, 59, 0, 0);
            ask("'aa'|'ab'");
            under(2, 6, 58, 58, 58);
            under(6, 2, 58, 58, 58);
        });
        edge("are such of y, too (2). BAD.", () -> {
            noAsk(ask -> () -> x.under(ask, 0, 0));
            noAsk(ask -> () -> x.under(0, ask, 0));
            beyond(Edges::busy, 0, 2, what -> () -> x.under(0, 1, what));
        });
    }

    private static void alike() {
        in("Promise 40");
        edge("The first number at which the LISTS of two differ (also as only one has it);", () -> {
            text("aab");
            ask("a|b");
            ask("'aa'");
            x.region(2);
            x.word(15);
            // only one has the 0-th, or the 2-nd
            due(0, x.alike(0, 5));
            due(0, x.alike(5, 0));
            due(2, x.alike(0, 2));
            due(2, x.alike(2, 0));
            // another first; the same first and another last
            due(0, x.alike(0, 1));
            due(0, x.alike(0, 3));
            due(0, x.alike(3, 4));
            again();
            places(59, 0);
            x.write(1);
            ask("a|b");
            due(59, x.alike(0, 2));
            due(59, x.alike(2, 0));
            x.stand(1, 0, 1);
            due(NONE, x.alike(0, 2));
        });
        edge("NONE: they are alike.", () -> {
            words(2);
            x.region(2);
            due(NONE, x.alike(0, 0));
            // no spans are alike, too
            due(NONE, x.alike(0, 1));
            due(NONE, x.alike(1, 2));
            x.write(0);
            due(NONE, x.alike(0, 2));
            due(0, x.alike(1, 2));
        });
        edge("BAD.", () -> {
            noAsk(ask -> () -> x.alike(ask, 0));
            noAsk(ask -> () -> x.alike(0, ask));
        });
        edge("(NONE isn't refused.)", () -> changesNothing(Edges::busy, () -> due(NONE, x.alike(7, 7))));
    }

    private static void same() {
        in("Promise 41");
        edge("The least number of an ASK with the same LIST (its own, if no lesser).", () -> {
            words(24);
            // without places all lists are the same
            for (int ask = 0; ask < 24; ask++) {
                due(0, x.same(ask));
            }
            x.write(0);
            due(0, x.same(0));
            due(1, x.same(1));
            due(0, x.same(16));
            due(1, x.same(23));
            // the same first alone is not the same list
            again();
            text("aab");
            ask("a|b");
            x.brief(2, 1);
            ask("'aa'");
            x.region(2);
            int[] want = {0, 1, 2, 2, 4, 5};
            for (int ask = 0; ask < want.length; ask++) {
                due(want[ask], x.same(ask));
            }
        });
        edge("BAD.", () -> noAsk(ask -> () -> x.same(ask)));
    }

    private static void inside() {
        in("Promise 42");
        edge("ASKS (bits) each of whose SPANS lies in one of an ASK's (also those without SPANS, and itself).", () -> {
            words(24);
            due((1 << 24) - 1, x.inside(0));
            due((1 << 24) - 1, x.inside(23));
            x.write(0);
            due((1 << 24) - 1, x.inside(0));
            due((1 << 24) - 1, x.inside(16));
            due((1 << 24) - 1 - 1 - (1 << 16), x.inside(23));
            five();
            due(1 + 8, x.inside(0));
            due(2 + 8, x.inside(1));
            due(1 + 2 + 4 + 8, x.inside(2));
            due(8, x.inside(3));
            due(31, x.inside(4));
            // one of its spans that doesn't lie in any, the first or the last, and it is not inside
            again();
            text("aba");
            ask("a|'ab'|'ba'");
            due(1 + 4 + 16, x.inside(0));
            due(1 + 4 + 16, x.inside(4));
            due(2, x.inside(1));
            due(8, x.inside(3));
            again();
            x.word(0);
            due(1, x.inside(0));
        });
        edge("BAD.", () -> noAsk(ask -> () -> x.inside(ask)));
    }

    private static void words(int ask, int none, int more, int fewer) {
        due(none, x.words(ask, 0));
        due(more, x.words(ask, 1));
        due(fewer, x.words(ask, 2));
    }

    private static void words() {
        in("Promise 43");
        edge("WORDS (bits) WITHOUT which an ASK has no SPANS (what 0), more than it has (1), fewer (2).", () -> {
            // no spans as it is: without any word it has none, and no fewer
            x.word(0);
            words(0, 65535, 0, 0);
            x.write(0);
            words(0, 1, 0, 1);
            x.write(15);
            x.word(15);
            words(1, 32768, 0, 32768);
            ask("a|p");
            words(4, 0, 0, 32769);
            x.pair(8, 4, 1);
            words(5, 1, 0, 1);
            x.pair(8, 1, 1);
            words(6, 65535, 0, 0);
            // from none to some is more
            ask("S-p");
            words(9, 32767, 32768, 0);
            x.region(2);
            words(10, 0, 0, 0);
        });
        edge("fewer (2). BAD.", () -> {
            noAsk(ask -> () -> x.words(ask, 0));
            beyond(Edges::busy, 0, 2, what -> () -> x.words(0, what));
        });
    }

    private static void whatIf() {
        in("Promise 44");
        edge("How many SPANS an ASK has, IF a PLACE had a WORD.", () -> {
            places(60, 0);
            words(16);
            due(60, x.many(0));
            due(59, x.whatIf(0, 30, 1));
            due(60, x.many(0));
            for (int place : new int[] {0, 59}) {
                due(60, x.whatIf(0, place, 0));
                due(59, x.whatIf(0, place, 15));
                due(1, x.whatIf(15, place, 15));
                due(0, x.whatIf(15, place, 0));
            }
            due(0, x.placeOf(59, 0));
            due(60, x.many(0));
            due(0, x.many(15));
            // all of the other word: what it stands for, and what stands for nothing more
            x.stand(15, 3, 1);
            due(1, x.whatIf(3, 59, 15));
            x.change(59, 15);
            due(1, x.whatIf(3, 59, 3));
            due(0, x.whatIf(3, 59, 0));
            due(1, x.many(3));
        });
        edge("BAD.", () -> {
            noAsk(ask -> () -> x.whatIf(ask, 0, 0));
            beyond(Edges::busy, 0, 5, place -> () -> x.whatIf(0, place, 0));
            beyond(Edges::busy, 0, 15, word -> () -> x.whatIf(0, 0, word));
            beyond(() -> words(1), 0, -1, place -> () -> x.whatIf(0, place, 0));
            beyond(Edges::full, 0, 59, place -> () -> x.whatIf(0, place, 0));
        });
    }

    private static void bestWord() {
        in("Promise 45");
        edge("The WORD of which, IF a PLACE had it, an ASK has most SPANS, of several the first.", () -> {
            places(60, 3);
            words(16);
            for (int place : new int[] {0, 59}) {
                for (int ask = 0; ask < 16; ask++) {
                    due(ask, x.bestWord(ask, place));
                }
            }
            // all the same: the first; and of those that stand for it, too
            x.region(0);
            due(0, x.bestWord(16, 59));
            x.stand(7, 15, 1);
            x.stand(9, 15, 1);
            due(7, x.bestWord(15, 59));
            x.stand(0, 15, 1);
            due(0, x.bestWord(15, 0));
            due(3, x.placeOf(0, 0));
            due(0, x.many(15));
            // the word that it has may be the best one, and may be that which is not
            ask("T-d");
            due(0, x.many(19));
            due(0, x.bestWord(19, 5));
            again();
            x.write(0);
            ask("T-a");
            due(0, x.many(2));
            due(1, x.bestWord(2, 0));
            again();
            x.write(1);
            ask("T-a");
            due(1, x.many(2));
            due(1, x.bestWord(2, 0));
        });
        edge("BAD.", () -> {
            noAsk(ask -> () -> x.bestWord(ask, 0));
            beyond(Edges::busy, 0, 5, place -> () -> x.bestWord(0, place));
            beyond(() -> words(1), 0, -1, place -> () -> x.bestWord(0, place));
            beyond(Edges::full, 0, 59, place -> () -> x.bestWord(0, place));
        });
    }

    /** Of a call with a shelf and a number of elements, or of twos: each refusal in its order. */
    private static void rowRefusals(int low, int high, int each, IntFunction<IntFunction<LongSupplier>> call) {
        edge("NOTHING;", () -> {
            for (int s : new int[] {6, 7}) {
                refused(NOTHING, Edges::busy, call.apply(s).apply(low), call.apply(s).apply(high));
            }
        });
        edge("OTHER;", () -> refused(OTHER, Edges::busy, call.apply(5).apply(low), call.apply(5).apply(high)));
        edge("BAD: fewer elements", () -> {
            // rows of 5, 2, 3 and 0 elements, and one that is full
            refused(BAD, Edges::busy, call.apply(0).apply(5 / each + 1), call.apply(1).apply(2 / each + 1),
                call.apply(2).apply(3 / each + 1), call.apply(3).apply(1), call.apply(3).apply(high));
            refused(BAD, () -> { busy(); x.row(7, 0, high * each - 1); }, call.apply(7).apply(high));
            busy();
            x.row(7, 0, high * each);
            int bad = x.status(12);
            call.apply(7).apply(high).getAsLong();
            call.apply(1).apply(2 / each).getAsLong();
            due(bad, x.status(12));
        });
    }

    /** What is BAD ahead of what the shelf holds. */
    private static void rowBads(int low, int high, IntFunction<IntFunction<LongSupplier>> call) {
        beyond(Edges::busy, 0, 7, s -> call.apply(s).apply(1));
        for (int s : new int[] {0, 3, 5, 6}) {
            beyond(Edges::busy, low, high, n -> call.apply(s).apply(n));
        }
    }

    private static void kinds() {
        in("Promise 46");
        edge("KINDS (2 to 8; bits) of which a pair x y would have just the LIST told by the first n twos (0 to 20; FIRST, LAST) of the ROW in SHELF s.", () -> {
            // without places a pair of any kind has no spans
            words(2);
            x.row(0, 0, 0);
            x.row(7, 0, 40);
            due(508, x.kinds(0, 1, 0, 0));
            due(508, x.kinds(0, 0, 7, 0));
            due(0, x.kinds(0, 1, 7, 20));
            due(0, x.kinds(0, 1, 7, 1));
            // 0..0 alone: EITHER, BOTH, IN, HAS of itself; none: THEN, OUT, LACKS
            x.write(0);
            due(4 + 8 + 32 + 128, x.kinds(0, 0, 7, 1));
            due(16 + 64 + 256, x.kinds(0, 0, 7, 0));
            due(4 + 64 + 256, x.kinds(0, 1, 7, 1));
            // one more than the list has, and one less
            due(0, x.kinds(0, 0, 7, 2));
            places(1, 0);
            row(7, 2, 0, 0, 1, 1, 2, 2);
            due(0, x.kinds(0, 0, 7, 1));
            due(4 + 8 + 32 + 128, x.kinds(0, 0, 7, 2));
            row(7, 2, 0, 1);
            due(16, x.kinds(0, 0, 7, 1));
            // 20 twos, of 20 spans, and of 21
            again();
            x.row(0, 1, 40);
            for (int i = 0; i < 40; i++) {
                x.set(0, i, i / 2);
            }
            places(20, 0);
            words(1);
            due(4 + 8 + 32 + 128, x.kinds(0, 0, 0, 20));
            due(0, x.kinds(0, 0, 0, 19));
            x.write(0);
            due(0, x.kinds(0, 0, 0, 20));
            again();
            x.write(0);
            words(1);
            row(0, 3, 1L << 32, 0);
            due(0, x.kinds(0, 0, 0, 1));
        });
        edge("BAD ASKS, SHELF, n;", () -> {
            noAsk(ask -> () -> x.kinds(ask, 0, 0, 1));
            noAsk(ask -> () -> x.kinds(0, ask, 0, 1));
            // ahead of OTHER and NOTHING
            for (int s : new int[] {5, 6}) {
                beyond(Edges::busy, 0, 7, ask -> () -> x.kinds(ask, 0, s, 1));
                beyond(Edges::busy, 0, 7, ask -> () -> x.kinds(0, ask, s, 1));
            }
            rowBads(0, 20, s -> n -> () -> x.kinds(0, 1, s, n));
        });
        rowRefusals(0, 20, 2, s -> n -> () -> x.kinds(0, 1, s, n));
    }

    private static void judge() {
        in("Promise 47");
        edge("By the first n twos (0 to 20; FIRST, LAST) of the ROW in SHELF s: the first number at which the LIST has another SPAN, or none;", () -> {
            five();
            row(7, 2, 0, 1, 2, 2);
            // none there; another FIRST; another LAST
            due(1, x.judge(2, 7, 2));
            due(0, x.judge(3, 7, 1));
            due(0, x.judge(0, 7, 1));
            due(0, x.judge(1, 7, 1));
            row(0, 3, 1L << 32, 1);
            due(0, x.judge(2, 0, 1));
            row(0, 3, 0, 1 - (1L << 32));
            due(0, x.judge(2, 0, 1));
            again();
            places(20, 0);
            words(1);
            x.row(0, 0, 40);
            for (int i = 0; i < 40; i++) {
                x.set(0, i, i / 2);
            }
            due(NONE, x.judge(0, 0, 20));
            x.set(0, 39, 20);
            due(19, x.judge(0, 0, 20));
            due(19, x.judge(0, 0, 19));
            x.set(0, 39, 19);
            x.change(19, 1);
            due(19, x.judge(0, 0, 20));
            due(NONE, x.judge(0, 0, 19));
        });
        edge("n: the LIST has more;", () -> {
            five();
            x.row(0, 0, 0);
            due(0, x.judge(0, 0, 0));
            again();
            places(60, 0);
            words(1);
            x.row(0, 0, 40);
            for (int i = 0; i < 40; i++) {
                x.set(0, i, i / 2);
            }
            for (int n = 0; n <= 20; n++) {
                due(n, x.judge(0, 0, n));
            }
        });
        edge("NONE: it is just so.", () -> {
            five();
            row(0, 3, 0, 1);
            due(NONE, x.judge(2, 0, 1));
            due(NONE, x.judge(3, 0, 0));
            x.row(1, 4, 0);
            due(NONE, x.judge(3, 1, 0));
            row(1, 4, 0, 1);
            due(NONE, x.judge(2, 1, 1));
            again();
            x.region(2);
            x.row(0, 0, 40);
            due(NONE, x.judge(0, 0, 0));
            due(0, x.judge(0, 0, 1));
            due(0, x.judge(0, 0, 20));
        });
        edge("BAD ask, SHELF, n;", () -> {
            noAsk(ask -> () -> x.judge(ask, 0, 1));
            for (int s : new int[] {5, 6}) {
                beyond(Edges::busy, 0, 7, ask -> () -> x.judge(ask, s, 1));
            }
            rowBads(0, 20, s -> n -> () -> x.judge(0, s, n));
        });
        rowRefusals(0, 20, 2, s -> n -> () -> x.judge(0, s, n));
        edge("(NONE isn't refused.)", () -> changesNothing(() -> { busy(); x.word(15); }, () -> due(NONE, x.judge(8, 0, 0))));
    }

    private static void leap() {
        in("Promise 48");
        edge("A LEAP by the first n elements (0 to 40) of the ROW in SHELF s: the SPAN's number; NONE.", () -> {
            places(60, 0);
            words(2);
            x.row(7, 3, 40);
            due(0, x.leap(0, 7, 0));
            due(0, x.leap(0, 7, 40));
            due(NONE, x.leap(1, 7, 40));
            for (int i = 0; i < 40; i++) {
                x.set(7, i, i + 20);
            }
            due(20, x.leap(0, 7, 1));
            due(58, x.leap(0, 7, 39));
            due(59, x.leap(0, 7, 40));
            x.set(7, 39, 60);
            due(58, x.leap(0, 7, 39));
            due(NONE, x.leap(0, 7, 40));
            x.set(7, 0, 60);
            due(NONE, x.leap(0, 7, 1));
            due(NONE, x.leap(0, 7, 40));
            row(0, 3, Long.MIN_VALUE, 59, Long.MAX_VALUE);
            due(0, x.leap(0, 0, 1));
            due(59, x.leap(0, 0, 2));
            due(NONE, x.leap(0, 0, 3));
            row(0, 3, 1L << 32);
            due(NONE, x.leap(0, 0, 1));
            row(0, 4, 5, 0, 1);
            due(1, x.leap(0, 0, 1));
            due(1, x.leap(0, 0, 3));
            // without places there is no span to go to
            again();
            words(1);
            x.row(0, 0, 40);
            due(NONE, x.leap(0, 0, 1));
            due(NONE, x.leap(0, 0, 40));
        });
        edge("BAD ask, SHELF, n;", () -> {
            noAsk(ask -> () -> x.leap(ask, 0, 1));
            for (int s : new int[] {5, 6}) {
                beyond(Edges::busy, 0, 7, ask -> () -> x.leap(ask, s, 1));
            }
            rowBads(0, 40, s -> n -> () -> x.leap(0, s, n));
        });
        rowRefusals(0, 40, 1, s -> n -> () -> x.leap(0, s, n));
        edge("(NONE isn't refused.)", () -> changesNothing(Edges::busy, () -> {
            due(NONE, x.leap(0, 0, 5));
            due(NONE, x.leap(0, 2, 1));
        }));
    }

    private static void fold() {
        in("Promise 49");
        edge("FOLD of a KIND by the first n elements (1 to 6) of the ROW in SHELF s, numbers of ASKS: how many SPANS (i NONE), the i-th (100 times FIRST, and LAST);", () -> {
            places(58, 0);
            text("bc");
            words(23);
            x.region(2);
            row(7, 0, 0, 1, 2, 23, 0, 2, 0);
            due(58, x.fold(2, 7, 1, NONE));
            due(0, x.fold(8, 7, 1, 0));
            due(5757, x.fold(8, 7, 1, 57));
            due(60, x.fold(2, 7, 3, NONE));
            due(5959, x.fold(2, 7, 3, 59));
            due(5759, x.fold(3, 7, 3, 0));
            due(1, x.fold(4, 7, 3, NONE));
            due(59, x.fold(3, 7, 6, 0));
            due(1, x.fold(3, 7, 6, NONE));
            row(6, 3, 23);
            due(59, x.fold(5, 6, 1, 0));
            // numbers of asks may be told by booleans, too
            row(5, 4, 0, 1);
            due(5758, x.fold(3, 5, 2, 0));
            due(58, x.fold(6, 5, 2, NONE));
            due(0, x.fold(7, 5, 2, NONE));
            due(58, x.many(0));
        });
        edge("NONE: no i-th.", () -> {
            words(2);
            x.row(0, 0, 6);
            for (int n = 1; n <= 6; n++) {
                due(0, x.fold(2, 0, n, NONE));
                due(NONE, x.fold(2, 0, n, 0));
            }
            places(60, 0);
            row(0, 0, 0, 1);
            due(5959, x.fold(2, 0, 2, 59));
            due(NONE, x.fold(2, 0, 2, 60));
            due(NONE, x.fold(2, 0, 2, MAX));
            due(NONE, x.fold(3, 0, 2, 0));
            due(0, x.fold(3, 0, 2, NONE));
        });
        edge("(NONE isn't refused.)", () -> changesNothing(Edges::busy, () -> {
            due(NONE, x.fold(2, 0, 1, 1));
            due(NONE, x.fold(2, 0, 4, MAX));
        }));
    }

    private static void foldRefusals() {
        edge("BAD kind, SHELF, n, i (below NONE);", () -> {
            rowBads(1, 6, s -> n -> () -> x.fold(2, s, n, NONE));
            // whatever the shelf holds: asks, others, a row, nothing
            for (int s : new int[] {0, 1, 3, 5, 6}) {
                beyond(Edges::busy, 2, 8, kind -> () -> x.fold(kind, s, 1, NONE));
                refused(BAD, Edges::busy, () -> x.fold(2, s, 1, -2), () -> x.fold(2, s, 1, MIN));
            }
        });
        rowRefusals(1, 6, 1, s -> n -> () -> x.fold(2, s, n, NONE));
        edge("STUCK: an element that is no ASK.", () -> {
            refused(STUCK, Edges::busy, () -> x.fold(2, 0, 5, NONE), () -> x.fold(8, 0, 5, 0), () -> x.fold(2, 1, 1, NONE),
                () -> x.fold(2, 1, 2, MAX), () -> x.fold(2, 2, 1, NONE));
            refused(STUCK, () -> row(0, 0, 0), () -> x.fold(2, 0, 1, NONE));
            for (long none : new long[] {-1, 24, MIN, MAX, 1L << 32, -(1L << 32), Long.MIN_VALUE, Long.MAX_VALUE}) {
                refused(STUCK, () -> { words(24); row(0, 3, none); }, () -> x.fold(2, 0, 1, NONE));
                refused(STUCK, () -> { words(24); row(0, 3, 0, 23, 0, 0, 0, none); }, () -> x.fold(2, 0, 6, NONE));
            }
            words(24);
            row(0, 3, 0, 23, 24);
            due(0, x.fold(2, 0, 2, NONE));
            due(STUCK, x.fold(2, 0, 3, NONE));
            x.drop();
            due(STUCK, x.fold(2, 0, 2, NONE));
            due(0, x.fold(2, 0, 1, NONE));
        });
    }
}
