/** Promises 26 to 37: what comes of one list. */
public final class ListsTest extends Checks {
    private ListsTest() { }

    /** Ask 2 has 0..2, 2..3, 3..5, 5..6, 13..14, 14..15; ask 3 has no spans. */
    private static void someLists() {
        text("abcab.cab/deab.ba/c ab a");
        ask("a & c");
        ask("p");
    }

    static void promise26() {
        someLists();
        due(7, x.many(0));
        due(3, x.many(1));
        due(6, x.many(2));
        due(0, x.many(3));
        x.change(2, 15);
        due(4, x.many(2));
        due(1, x.many(3));
        x.stand(15, 2, 1);
        due(6, x.many(2));
        x.write(2);
        due(7, x.many(2));
        badAsk(ask -> () -> x.many(ask));
        x.drop();
        x.drop();
        badAsk(ask -> () -> x.many(ask));
    }

    static void promise27() {
        someLists();
        int[] want = {2, 203, 305, 506, 1314, 1415};
        for (int i = 0; i < 6; i++) {
            due(want[i], x.span(2, i));
        }
        badUnless(0, 5, i -> () -> x.span(2, i));
        badAsk(ask -> () -> x.span(ask, 0));
        refuses(BAD, () -> x.span(3, 0));
        for (int place = 18; place < 60; place++) {
            x.write(0);
        }
        x.region(2);
        due(59, x.span(4, 0));
        due(5959, x.span(0, 48));
        // the ask of greatest number, with the list of most spans
        for (int ask = 5; ask < 24; ask++) {
            x.word(0);
        }
        due(49, x.many(23));
        due(5959, x.span(23, 48));
    }

    private static void next(int p, int... want) {
        for (int what = 0; what <= 3; what++) {
            int taken = what;
            if (want[what] == NONE) {
                none(() -> x.next(2, p, taken));
            } else {
                due(want[what], x.next(2, p, what));
            }
        }
    }

    static void promise28() {
        someLists();
        next(MIN, 0, 0, NONE, NONE);
        next(-1, 0, 0, NONE, NONE);
        next(0, 0, 0, NONE, 0);
        next(1, 1, 0, NONE, 0);
        next(2, 1, 0, 0, 1);
        next(3, 2, 1, 1, 2);
        next(4, 3, 2, 1, 2);
        next(5, 3, 2, 2, 3);
        next(6, 4, 3, 3, 3);
        next(7, 4, 4, 3, 3);
        next(13, 4, 4, 3, 4);
        next(14, 5, 4, 4, 5);
        next(15, NONE, 5, 5, 5);
        next(16, NONE, NONE, 5, 5);
        next(61, NONE, NONE, 5, 5);
        next(MAX, NONE, NONE, 5, 5);
        none(() -> x.next(3, 0, 0), () -> x.next(3, 0, 1), () -> x.next(3, 60, 2), () -> x.next(3, 60, 3));
        badAsk(ask -> () -> x.next(ask, 0, 0));
        badUnless(0, 3, what -> () -> x.next(2, 0, what));
    }

    static void promise29() {
        someLists();
        int[] want = {1, 1, 2, 2, 1, 2, 1, 0, 0, 0, 0, 0, 0, 1, 2, 1, 0, 0};
        for (int place = 0; place < 18; place++) {
            due(want[place], x.at(2, place));
            due(0, x.at(3, place));
        }
        badAsk(ask -> () -> x.at(ask, 0));
        badPlace(place -> () -> x.at(2, place));
    }

    static void promise30() {
        x.word(0);
        none(() -> x.crowd(0));
        x.drop();
        someLists();
        due(2, x.crowd(2));
        due(0, x.crowd(0));
        none(() -> x.crowd(3));
        ask("b < b | d < b | e < b");
        // 1..4, 4..7, 9..11, 11..12, 12..16
        dueList("104 407 911 1112 1216", x.status(3) - 1);
        due(4, x.crowd(x.status(3) - 1));
        badAsk(ask -> () -> x.crowd(ask));
    }

    static void promise31() {
        x.word(0);
        for (int what = 0; what <= 2; what++) {
            due(0, x.cover(0, what));
        }
        x.drop();
        someLists();
        due(10, x.cover(2, 0));
        due(8, x.cover(2, 1));
        due(6, x.cover(2, 2));
        due(0, x.cover(3, 0));
        due(18, x.cover(3, 1));
        due(18, x.cover(3, 2));
        // c has 2, 5, 14, and behind the last one three are left
        due(3, x.cover(1, 0));
        due(8, x.cover(1, 2));
        x.region(2);
        due(18, x.cover(4, 0));
        due(0, x.cover(4, 1));
        due(0, x.cover(4, 2));
        ask("d");
        due(9, x.cover(5, 2));
        badAsk(ask -> () -> x.cover(ask, 0));
        badUnless(0, 2, what -> () -> x.cover(2, what));
    }

    static void promise32() {
        someLists();
        due(2, x.lengths(2, 0));
        due(3, x.lengths(2, 1));
        due(14, x.lengths(2, 2));
        for (int what = 0; what <= 2; what++) {
            due(0, x.lengths(3, what));
        }
        x.region(2);
        for (int what = 0; what <= 2; what++) {
            due(18, x.lengths(4, what));
        }
        badAsk(ask -> () -> x.lengths(ask, 0));
        badUnless(0, 2, what -> () -> x.lengths(2, what));
        text("a".repeat(42));
        for (int what = 0; what <= 2; what++) {
            due(60, x.lengths(4, what));
        }
    }

    static void promise33() {
        someLists();
        due(3, x.apart(2, NONE));
        due(0, x.apart(2, 0));
        due(2, x.apart(2, 1));
        due(4, x.apart(2, 2));
        due(7, x.apart(0, NONE));
        due(6, x.apart(0, 6));
        due(0, x.apart(3, NONE));
        badUnless(-1, 2, i -> () -> x.apart(2, i));
        badUnless(-1, -1, i -> () -> x.apart(3, i));
        badAsk(ask -> () -> x.apart(ask, NONE));
        badAsk(ask -> () -> x.apart(ask, 0));
    }

    static void promise34() {
        someLists();
        due(3, x.pins(2, NONE));
        due(2, x.pins(2, 0));
        due(5, x.pins(2, 1));
        due(14, x.pins(2, 2));
        due(17, x.pins(0, 6));
        due(0, x.pins(3, NONE));
        badUnless(-1, 2, i -> () -> x.pins(2, i));
        badUnless(-1, -1, i -> () -> x.pins(3, i));
        badAsk(ask -> () -> x.pins(ask, NONE));
        badAsk(ask -> () -> x.pins(ask, 0));
    }

    static void promise35() {
        x.word(0);
        refuses(BAD, () -> x.score(0, 0));
        x.drop();
        someLists();
        due(1680 + 2520 + 1680 + 2520, x.score(2, 0));
        // 13..14 lies in no part
        due(0, x.score(2, 1));
        due(2520, x.score(2, 2));
        due(3 * 5040, x.score(0, 0));
        due(0, x.score(3, 2));
        badUnless(0, 2, part -> () -> x.score(2, part));
        badAsk(ask -> () -> x.score(ask, 0));
        x.region(2);
        due(0, x.score(4, 0));
        x.region(1);
        due(630, x.score(5, 0));
        due(840, x.score(5, 1));
        x.end(2);
        text("a".repeat(11) + "/" + "c".repeat(17));
        // 11 and 17 places, both cut
        due(458, x.score(5, 3));
        due(296, x.score(5, 4));
    }

    static void promise36() {
        x.word(0);
        refuses(BAD, () -> x.rank(0, 0));
        x.drop();
        someLists();
        due(0, x.rank(2, 0));
        due(2, x.rank(2, 1));
        due(1, x.rank(2, 2));
        for (int i = 0; i < 3; i++) {
            due(i, x.rank(3, i));
        }
        // a: three in the first part, two in each other one
        due(0, x.rank(0, 0));
        due(1, x.rank(0, 1));
        due(2, x.rank(0, 2));
        x.change(0, 4);
        x.change(3, 4);
        due(1, x.rank(0, 0));
        due(2, x.rank(0, 1));
        due(0, x.rank(0, 2));
        badUnless(0, 2, i -> () -> x.rank(2, i));
        badAsk(ask -> () -> x.rank(ask, 0));
    }

    /** As many parts as there can be. */
    static void promise36Full() {
        for (int place = 0; place < 60; place++) {
            x.write(place % 2);
            x.end(2);
        }
        x.word(1);
        for (int i = 0; i < 60; i++) {
            due(i < 30 ? 2 * i + 1 : 2 * (i - 30), x.rank(0, i));
        }
        badUnless(0, 59, i -> () -> x.rank(0, i));
        due(5040, x.score(0, 59));
    }

    private static void window(int n, int first, int spans) {
        due(first, x.window(2, n, 0));
        due(spans, x.window(2, n, 1));
    }

    static void promise37() {
        x.word(0);
        due(0, x.window(0, 5, 0));
        due(0, x.window(0, 5, 1));
        x.drop();
        someLists();
        window(1, 0, 0);
        window(2, 2, 1);
        window(3, 13, 2);
        window(4, 0, 2);
        window(5, 2, 3);
        window(7, 0, 4);
        window(13, 0, 4);
        window(14, 2, 5);
        window(15, 0, 5);
        window(16, 0, 6);
        window(17, 0, 6);
        window(18, 0, 6);
        window(19, 0, 6);
        window(60, 0, 6);
        due(0, x.window(3, 4, 0));
        due(0, x.window(3, 4, 1));
        ask("a@'ba'");
        // 13 and 17 alone, for 'ba' stands there
        due(13, x.window(x.status(3) - 1, 1, 0));
        due(13, x.window(x.status(3) - 1, 5, 0));
        due(2, x.window(x.status(3) - 1, 5, 1));
        due(10, x.window(x.status(3) - 1, 4, 0));
        ask("d|e");
        due(8, x.window(x.status(3) - 1, 2, 0));
        ask("b");
        due(1, x.window(x.status(3) - 1, 1, 0));
        due(1, x.window(x.status(3) - 1, 4, 0));
        badAsk(ask -> () -> x.window(ask, 1, 0));
        badUnless(1, 60, n -> () -> x.window(2, n, 0));
        badUnless(0, 1, what -> () -> x.window(2, 1, what));
    }

    public static void main(String[] args) {
        run("26", ListsTest::promise26);
        run("27", ListsTest::promise27);
        run("28", ListsTest::promise28);
        run("29", ListsTest::promise29);
        run("30", ListsTest::promise30);
        run("31", ListsTest::promise31);
        run("32", ListsTest::promise32);
        run("33", ListsTest::promise33);
        run("34", ListsTest::promise34);
        run("35", ListsTest::promise35);
        run("36", ListsTest::promise36);
        run("36, full", ListsTest::promise36Full);
        run("37", ListsTest::promise37);
        close();
    }
}
