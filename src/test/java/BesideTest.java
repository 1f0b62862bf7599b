/** Promises 38 to 49: lists beside lists, what a word does, and lists told by a row. */
public final class BesideTest extends Checks {
    private BesideTest() { }

    /** Ask 2 has 0..2, 2..3, 3..5, 5..6, 13..14, 14..15; 3 no spans; 4 sentences; 5 parts. */
    private static void someLists() {
        text("abcab.cab/deab.ba/c ab a");
        ask("a & c");
        ask("p");
        ask("S");
        ask("P");
    }

    static void promise38() {
        someLists();
        x.word(3);
        x.word(4);
        due(1, x.gap(2, 6));
        due(1, x.gap(6, 2));
        due(2, x.gap(1, 6));
        due(3, x.gap(7, 1));
        due(0, x.gap(6, 7));
        due(0, x.gap(2, 2));
        due(0, x.gap(4, 7));
        due(0, x.gap(0, 1));
        due(0, x.gap(5, 5));
        none(() -> x.gap(2, 3), () -> x.gap(3, 2), () -> x.gap(3, 3));
        badAsk(ask -> () -> x.gap(ask, 0));
        badAsk(ask -> () -> x.gap(0, ask));
    }

    static void promise38Far() {
        text("a" + "c".repeat(58) + "b");
        x.word(0);
        x.word(1);
        due(58, x.gap(0, 1));
        due(58, x.gap(1, 0));
    }

    static void promise39() {
        someLists();
        due(5, x.under(4, 5, 0));
        due(1, x.under(4, 5, 1));
        due(1, x.under(4, 5, 2));
        due(1, x.under(5, 4, 0));
        due(3, x.under(5, 4, 1));
        due(1, x.under(5, 4, 2));
        // 0..2, 2..3, 5..6, 14..15; 3..5 and 13..14 go over an end
        due(4, x.under(2, 4, 0));
        due(5, x.under(2, 5, 0));
        due(0, x.under(2, 4, 1));
        due(6, x.under(2, 2, 0));
        due(6, x.under(2, 2, 1));
        due(6, x.under(2, 2, 2));
        due(6, x.under(2, 0, 1));
        due(5, x.under(0, 2, 0));
        for (int what = 0; what <= 2; what++) {
            due(0, x.under(3, 2, what));
            due(0, x.under(2, 3, what));
            int taken = what;
            badAsk(ask -> () -> x.under(ask, 0, taken));
            badAsk(ask -> () -> x.under(0, ask, taken));
        }
        badUnless(0, 2, what -> () -> x.under(2, 2, what));
    }

    static void promise40() {
        // a has 0, 1; b has 2; c has 3
        text("aabc");
        ask("a|b");
        ask("a|b|c");
        ask("'ab'");
        x.word(9);
        int a = 0;
        int ab = 2;
        int abc = 7;
        due(2, x.alike(a, ab));
        due(2, x.alike(ab, a));
        due(3, x.alike(ab, abc));
        due(0, x.alike(1, a));
        due(0, x.alike(8, 1));
        due(0, x.alike(9, a));
        due(0, x.alike(a, 9));
        none(() -> x.alike(a, 3), () -> x.alike(9, 9), () -> x.alike(ab, ab));
        // the same first but another last, and the other way about
        x.region(2);
        due(0, x.alike(a, 10));
        due(0, x.alike(6, 10));
        x.region(0);
        none(() -> x.alike(10, 11));
        badAsk(ask -> () -> x.alike(ask, 0));
        badAsk(ask -> () -> x.alike(0, ask));
    }

    static void promise41() {
        text("ab.ba");
        x.word(0);
        x.word(1);
        x.word(9);
        x.word(10);
        x.word(0);
        x.brief(1, 3);
        x.region(0);
        x.pair(3, 0, 1);
        int[] want = {0, 1, 2, 2, 0, 1, 6, 6};
        for (int ask = 0; ask < want.length; ask++) {
            due(want[ask], x.same(ask));
        }
        // 0..1, 1..2, 2..3 against 0..1, 2..3
        x.change(0, 1);
        x.change(1, 0);
        due(7, x.same(7));
        badAsk(ask -> () -> x.same(ask));
    }

    static void promise42() {
        someLists();
        // 0 a, 1 c, 2 a & c, 3 none, 4 sentences, 5 parts
        due(1 + 8, x.inside(0));
        due(2 + 8, x.inside(1));
        due(4 + 8 + 2, x.inside(2));
        due(8, x.inside(3));
        due(1 + 2 + 8 + 16, x.inside(4));
        due(1 + 2 + 8 + 16 + 32, x.inside(5));
        x.region(2);
        due(127, x.inside(6));
        for (int ask = 7; ask < 24; ask++) {
            x.word(3);
        }
        due((1 << 24) - 1, x.inside(6));
        due((1 << 24) - 1 - 127 + 8, x.inside(23));
        badAsk(ask -> () -> x.inside(ask));
    }

    static void promise43() {
        text("ab.c.b");
        ask("S - b");
        ask("a < b");
        ask("a | b");
        ask("p");
        // 2: sentences that lack b; more without b
        due(0, x.words(2, 0));
        due(2, x.words(2, 1));
        due(0, x.words(2, 2));
        due(3, x.words(5, 0));
        due(0, x.words(5, 1));
        due(3, x.words(5, 2));
        due(0, x.words(8, 0));
        due(3, x.words(8, 2));
        due(65535, x.words(9, 0));
        due(0, x.words(9, 1));
        due(0, x.words(9, 2));
        dueList("202", 2);
        badAsk(ask -> () -> x.words(ask, 0));
        badUnless(0, 2, what -> () -> x.words(0, what));
    }

    /** What is asked of words changes no list, not even that of the last word. */
    static void promise43Behind() {
        text("pbp");
        x.word(15);
        due(32768, x.words(0, 0));
        dueList("0 202", 0);
        x.change(1, 15);
        dueList("0 101 202", 0);
        due(32768, x.words(0, 2));
        x.stand(3, 15, 1);
        due(3, x.many(0));
    }

    /** Without a word its places have none; a place with another one keeps what that stands for. */
    static void promise43Standing() {
        text("bdb");
        x.word(0);
        x.word(1);
        x.stand(1, 0, 1);
        x.stand(3, 1, 1);
        dueList("0 202", 0);
        dueList("0 101 202", 1);
        due(2, x.words(0, 0));
        due(2, x.words(0, 2));
        due(0, x.words(1, 0));
        due(2 + 8, x.words(1, 2));
        x.word(3);
        x.pair(6, 1, 2);
        // b's out of d: without d, 1 is gone with its b; without b only the d's are left
        dueList("0 202", 3);
        due(2, x.words(3, 0));
        due(0, x.words(3, 1));
        due(2, x.words(3, 2));
    }

    static void promise44() {
        text("ab.c.b");
        ask("S # b");
        x.word(1);
        x.word(2);
        x.stand(7, 1, 1);
        due(2, x.many(2));
        due(3, x.whatIf(2, 2, 1));
        due(3, x.whatIf(2, 2, 7));
        due(1, x.whatIf(2, 1, 0));
        due(2, x.whatIf(2, 1, 1));
        due(2, x.whatIf(2, 0, 15));
        due(3, x.whatIf(3, 0, 1));
        due(0, x.whatIf(4, 2, 0));
        due(3, x.whatIf(0, 2, 5));
        due(2, x.many(2));
        due(3, x.whatIf(2, 2, 1));
        due(2, x.many(2));
        due(0, x.whatIf(4, 2, 0));
        dueList("202", 4);
        dueList("101 303", 3);
        due(2, x.placeOf(2, 0));
        badAsk(ask -> () -> x.whatIf(ask, 0, 0));
        badPlace(place -> () -> x.whatIf(0, place, 0));
        badWord(word -> () -> x.whatIf(0, 0, word));
    }

    static void promise45() {
        text("ab.c.b");
        ask("S # b");
        ask("S ! c");
        ask("p");
        due(1, x.bestWord(2, 2));
        due(1, x.bestWord(2, 1));
        due(0, x.bestWord(2, 0));
        due(0, x.bestWord(0, 1));
        due(15, x.bestWord(6, 3));
        x.stand(0, 15, 1);
        due(0, x.bestWord(6, 3));
        x.stand(4, 1, 1);
        x.stand(1, 4, 1);
        due(1, x.bestWord(2, 2));
        dueList("1 303", 2);
        // word 0 stands for the asked one, too, and comes ahead of it
        due(0, x.bestWord(6, 0));
        dueList("0", 6);
        x.change(0, 3);
        due(0, x.bestWord(6, 0));
        dueList("", 6);
        x.change(0, 15);
        dueList("0", 6);
        due(2, x.placeOf(2, 0));
        badAsk(ask -> () -> x.bestWord(ask, 0));
        badPlace(place -> () -> x.bestWord(0, place));
    }

    static void promise46() {
        // a: 0, 3; b: 1
        text("ab.ca");
        x.word(0);
        x.word(1);
        row(0, 0, 0, 0, 3, 3, 9, 9);
        due(64 + 256, x.kinds(0, 1, 0, 2));
        due(0, x.kinds(0, 1, 0, 1));
        due(0, x.kinds(0, 1, 0, 3));
        due(32 + 128, x.kinds(0, 1, 0, 0));
        row(0, 3, 0, 1, 1, 3);
        due(16, x.kinds(0, 1, 0, 1));
        due(8, x.kinds(0, 1, 0, 2));
        due(8, x.kinds(1, 0, 0, 2));
        row(0, 2, 0, 0, 1, 1, 3, 3);
        due(4, x.kinds(0, 1, 0, 3));
        row(0, 2, 0, 0, 3, 3);
        due(4 + 8 + 32 + 128, x.kinds(0, 0, 0, 2));
        due(64 + 256, x.kinds(0, 0, 0, 0));
        row(0, 3, 1L << 32, 0, 3, 3);
        due(0, x.kinds(0, 0, 0, 2));
        row(0, 3, 0, 0, 3, 3 - (1L << 32));
        due(0, x.kinds(0, 0, 0, 2));
        x.row(0, 4, 40);
        due(0, x.kinds(0, 1, 0, 20));
    }

    private static void rowRefusals(int high, int each, java.util.function.IntFunction<java.util.function.IntFunction<Long>> call) {
        x.row(5, 0, 3);
        x.row(7, 0, 40);
        x.show(6, 0);
        badShelf(s -> () -> call.apply(s).apply(1));
        for (int s : new int[] {4, 5, 6, 7}) {
            badUnless(0, high, n -> () -> call.apply(s).apply(n));
        }
        refuses(OTHER, () -> call.apply(6).apply(0), () -> call.apply(6).apply(high));
        refuses(NOTHING, () -> call.apply(4).apply(0), () -> call.apply(4).apply(high));
        int fits = 3 / each;
        refuses(BAD, () -> call.apply(5).apply(fits + 1), () -> call.apply(5).apply(high));
        int bad = x.status(12);
        call.apply(5).apply(fits);
        call.apply(7).apply(high);
        due(bad, x.status(12));
    }

    static void promise46Refusals() {
        text("ab");
        x.word(0);
        x.word(1);
        rowRefusals(20, 2, s -> n -> (long) x.kinds(0, 1, s, n));
        for (int s : new int[] {4, 5, 6, 7}) {
            badAsk(ask -> () -> x.kinds(ask, 1, s, 1));
            badAsk(ask -> () -> x.kinds(1, ask, s, 1));
        }
    }

    static void promise47() {
        text("ab.ca");
        x.word(0);
        x.word(9);
        row(0, 1, 0, 0, 3, 3, 4, 4);
        none(() -> x.judge(0, 0, 2), () -> x.judge(1, 0, 0));
        due(0, x.judge(0, 0, 0));
        due(1, x.judge(0, 0, 1));
        due(2, x.judge(0, 0, 3));
        due(0, x.judge(1, 0, 1));
        x.set(0, 3, 4);
        due(1, x.judge(0, 0, 2));
        due(1, x.judge(0, 0, 3));
        x.set(0, 3, 3);
        x.set(0, 2, 2);
        due(1, x.judge(0, 0, 2));
        row(0, 3, 1L << 32, 0, 3, 3);
        due(0, x.judge(0, 0, 2));
        row(0, 3, 0, 1L << 32);
        due(0, x.judge(0, 0, 1));
        text("a".repeat(55));
        x.row(1, 2, 40);
        due(1, x.judge(0, 1, 20));
        for (int i = 0; i < 20; i++) {
            x.set(1, 2 * i, x.span(0, i) / 100);
            x.set(1, 2 * i + 1, x.span(0, i) % 100);
        }
        due(1, x.judge(0, 1, 1));
        due(20, x.judge(0, 1, 20));
    }

    static void promise47Refusals() {
        text("ab");
        x.word(0);
        rowRefusals(20, 2, s -> n -> (long) x.judge(0, s, n));
        for (int s : new int[] {4, 5, 6, 7}) {
            badAsk(ask -> () -> x.judge(ask, s, 1));
        }
    }

    static void promise48() {
        someLists();
        // firsts 0, 2, 3, 5, 13, 14
        row(0, 3, 1, 0, 4, -9, 14, 15, 0);
        due(0, x.leap(2, 0, 0));
        due(1, x.leap(2, 0, 1));
        due(1, x.leap(2, 0, 2));
        due(3, x.leap(2, 0, 3));
        due(3, x.leap(2, 0, 4));
        due(5, x.leap(2, 0, 5));
        none(() -> x.leap(2, 0, 6), () -> x.leap(2, 0, 7), () -> x.leap(3, 0, 0), () -> x.leap(3, 0, 1));
        row(0, 3, Long.MIN_VALUE, 13, Long.MAX_VALUE);
        due(0, x.leap(2, 0, 1));
        due(4, x.leap(2, 0, 2));
        none(() -> x.leap(2, 0, 3));
        row(0, 3, 1L << 32);
        none(() -> x.leap(2, 0, 1));
        row(0, 3, -(1L << 32) + 5);
        due(0, x.leap(2, 0, 1));
    }

    static void promise48Refusals() {
        text("ab");
        x.word(0);
        rowRefusals(40, 1, s -> n -> (long) x.leap(0, s, n));
        for (int s : new int[] {4, 5, 6, 7}) {
            badAsk(ask -> () -> x.leap(ask, s, 1));
        }
    }

    static void promise49() {
        // a: 0, 3; b: 1, 4; c: 2, 5
        text("abcabc");
        x.word(0);
        x.word(1);
        x.word(2);
        x.region(0);
        row(0, 2, 0, 1, 2, 3, 3, 3);
        due(2, x.fold(3, 0, 1, NONE));
        due(303, x.fold(8, 0, 1, 1));
        due(3, x.fold(3, 0, 2, NONE));
        due(1, x.fold(3, 0, 2, 0));
        due(103, x.fold(3, 0, 2, 1));
        due(304, x.fold(3, 0, 2, 2));
        // 0..2, 1..3, 2..4, 3..5
        due(4, x.fold(3, 0, 3, NONE));
        due(305, x.fold(3, 0, 3, 3));
        due(2, x.fold(4, 0, 3, NONE));
        due(2, x.fold(4, 0, 3, 0));
        due(305, x.fold(4, 0, 3, 1));
        due(6, x.fold(2, 0, 3, NONE));
        due(505, x.fold(2, 0, 3, 5));
        due(0, x.fold(5, 0, 2, NONE));
        due(2, x.fold(6, 0, 3, NONE));
        due(0, x.fold(6, 0, 4, NONE));
        due(1, x.fold(3, 0, 6, NONE));
        due(5, x.fold(3, 0, 6, 0));
        row(1, 3, 3, 0, 1, 2, 0, 1);
        due(1, x.fold(7, 1, 6, NONE));
        due(5, x.fold(7, 1, 6, 0));
        due(0, x.fold(8, 1, 2, NONE));
        none(() -> x.fold(3, 0, 3, 4), () -> x.fold(3, 0, 1, 2), () -> x.fold(8, 1, 2, 0), () -> x.fold(3, 0, 3, MAX));
        dueList("0 303", 0);
        row(2, 4, 0, 1, 0);
        due(3, x.fold(3, 2, 3, NONE));
    }

    static void promise49Refusals() {
        text("ab");
        x.word(0);
        x.word(1);
        row(0, 3, 0, 1, 2, 0, 0, 0, 0);
        row(1, 3, -1, 1L << 32);
        x.show(2, 0);
        x.row(4, 0, 0);
        badShelf(s -> () -> x.fold(3, s, 1, NONE));
        for (int s = 0; s <= 3; s++) {
            int shelf = s;
            badUnless(2, 8, kind -> () -> x.fold(kind, shelf, 1, NONE));
            badUnless(1, 6, n -> () -> x.fold(3, shelf, n, NONE));
            refuses(BAD, () -> x.fold(3, shelf, 1, -2), () -> x.fold(3, shelf, 1, MIN));
        }
        refuses(OTHER, () -> x.fold(3, 2, 1, NONE));
        refuses(NOTHING, () -> x.fold(3, 3, 1, NONE));
        refuses(BAD, () -> x.fold(3, 1, 3, NONE), () -> x.fold(3, 4, 1, NONE), () -> x.fold(3, 1, 6, 0));
        refuses(STUCK, () -> x.fold(3, 0, 3, NONE), () -> x.fold(3, 0, 6, 5), () -> x.fold(3, 1, 1, NONE));
        x.set(1, 0, 0);
        refuses(STUCK, () -> x.fold(3, 1, 2, 0));
        due(1, x.fold(3, 1, 1, NONE));
        due(1, x.fold(3, 0, 2, NONE));
    }

    public static void main(String[] args) {
        run("38", BesideTest::promise38);
        run("38, far", BesideTest::promise38Far);
        run("39", BesideTest::promise39);
        run("40", BesideTest::promise40);
        run("41", BesideTest::promise41);
        run("42", BesideTest::promise42);
        run("43", BesideTest::promise43);
        run("43, behind", BesideTest::promise43Behind);
        run("43, standing", BesideTest::promise43Standing);
        run("44", BesideTest::promise44);
        run("45", BesideTest::promise45);
        run("46", BesideTest::promise46);
        run("46, refusals", BesideTest::promise46Refusals);
        run("47", BesideTest::promise47);
        run("47, refusals", BesideTest::promise47Refusals);
        run("48", BesideTest::promise48);
        run("48, refusals", BesideTest::promise48Refusals);
        run("49", BesideTest::promise49);
        run("49, refusals", BesideTest::promise49Refusals);
        close();
    }
}
