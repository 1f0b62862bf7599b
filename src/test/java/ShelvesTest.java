/** Promises 1 to 8: a new object, and the shelves. */
public final class ShelvesTest extends Checks {
    private ShelvesTest() { }

    static void promise1() {
        for (int what : new int[] {0, 1, 2, 3, 4, 5, 6, 8, 12, 13, 14, 15, 16}) {
            due(0, x.status(what));
        }
        due(1, x.status(7));
        for (int s = 0; s < 8; s++) {
            due(NONE, x.holds(s));
        }
        due(-1, LeapingPassages.NONE);
        refuses(STUCK, () -> x.back(), () -> x.drop(), () -> x.end(1));
        x.write(5);
        due(1 << 5, x.placeOf(0, 4));
    }

    static void promise2() {
        for (int sort = 0; sort <= 4; sort++) {
            due(1, x.row(7, sort, 40));
            due(sort, x.holds(7));
            due(1, x.set(7, 39, 1));
        }
        due(1, x.row(7, 4, 40));
        due(0, x.element(7, 39));
        due(1, x.row(0, 2, 0));
        due(2, x.holds(0));
        refuses(BAD, () -> x.set(0, 0, 1));
        x.word(0);
        x.show(0, 0);
        due(1, x.row(0, 1, 3));
        due(1, x.holds(0));
        refuses(BAD, () -> x.set(0, 3, 1));
        badShelf(s -> () -> x.row(s, 0, 1));
        badUnless(0, 4, sort -> () -> x.row(0, sort, 1));
        badUnless(0, 40, n -> () -> x.row(0, 0, n));
    }

    static void promise3() {
        long[] told = {0x1234567890abcd80L, -1, 128, 65535, 1L << 32, Long.MIN_VALUE, 0, 2};
        long[][] want = {
            {-128, -1, -128, -1, 0, 0, 0, 2},
            {(short) 0xcd80, -1, 128, -1, 0, 0, 0, 2},
            {0x90abcd80, -1, 128, 65535, 0, 0, 0, 2},
            told,
            {1, 1, 1, 1, 1, 1, 0, 1}
        };
        for (int sort = 0; sort <= 4; sort++) {
            x.row(3, sort, 8);
            for (int i = 0; i < 8; i++) {
                due(1, x.set(3, i, told[i]));
            }
            for (int i = 0; i < 8; i++) {
                due(want[sort][i], x.element(3, i));
            }
        }
        x.word(0);
        x.show(1, 0);
        badShelf(s -> () -> x.set(s, 0, 1));
        refuses(OTHER, () -> x.set(1, 0, 1), () -> x.set(1, -1, 1));
        refuses(NOTHING, () -> x.set(2, 0, 1), () -> x.set(2, -1, 1));
        badUnless(0, 7, i -> () -> x.set(3, i, 1));
    }

    static void promise4() {
        row(0, 2, 1, 2, 3, 4, 5);
        row(1, 2, 9, 8, 7);
        due(2, x.copy(0, 1, 3, 1, 2));
        due(9, x.element(1, 0));
        due(4, x.element(1, 1));
        due(5, x.element(1, 2));
        due(4, x.element(0, 3));
        due(4, x.copy(0, 0, 0, 1, 4));
        for (int i = 0; i < 5; i++) {
            due(i == 0 ? 1 : i, x.element(0, i));
        }
        due(3, x.copy(0, 0, 2, 1, 3));
        due(2, x.element(0, 1));
        due(4, x.element(0, 3));
        due(4, x.element(0, 4));
        due(0, x.copy(0, 1, 5, 3, 0));
        due(3, x.copy(1, 1, 0, 0, 3));
    }

    static void promise4Refusals() {
        row(0, 2, 1, 2, 3, 4, 5);
        row(1, 2, 9, 8, 7);
        row(2, 3, 1, 2, 3, 4, 5);
        x.word(0);
        x.show(3, 0);
        badShelf(s -> () -> x.copy(s, 0, 0, 0, 1));
        badShelf(s -> () -> x.copy(3, s, 0, 0, 1));
        refuses(OTHER, () -> x.copy(3, 0, 0, 0, 1), () -> x.copy(0, 3, 0, 0, 1), () -> x.copy(0, 2, 0, 0, 1),
            () -> x.copy(0, 2, -1, 0, 1), () -> x.copy(3, 4, 0, 0, 1), () -> x.copy(4, 3, 0, 0, 1),
            () -> x.copy(3, 3, 0, 0, 0));
        refuses(NOTHING, () -> x.copy(4, 0, 0, 0, 1), () -> x.copy(0, 4, 0, 0, 1), () -> x.copy(4, 4, -1, 0, 1),
            () -> x.copy(5, 2, 9, 9, 9));
        refuses(BAD, () -> x.copy(0, 1, -1, 0, 1), () -> x.copy(0, 1, 0, -1, 1), () -> x.copy(0, 1, 0, 0, -1),
            () -> x.copy(0, 1, 4, 0, 2), () -> x.copy(0, 1, 0, 2, 2), () -> x.copy(0, 1, 6, 0, 0),
            () -> x.copy(0, 1, 0, 4, 0), () -> x.copy(0, 1, 0, 0, 4), () -> x.copy(0, 1, 1, 1, MAX),
            () -> x.copy(0, 1, MAX, 0, 1), () -> x.copy(0, 1, 0, MAX, 1), () -> x.copy(0, 1, MIN, 0, 1),
            () -> x.copy(0, 1, 0, MIN, 1), () -> x.copy(0, 1, 0, 0, MIN), () -> x.copy(0, 1, MAX, MAX, MAX));
    }

    static void promise5() {
        row(2, 1, 5, -6);
        due(5, x.element(2, 0));
        due(-6, x.element(2, 1));
        x.word(0);
        x.show(3, 0);
        for (int i : new int[] {MIN, -1, 2, 39, 40, MAX}) {
            due(0, x.element(2, i));
        }
        for (int s : new int[] {MIN, -1, 0, 3, 8, MAX}) {
            due(0, x.element(s, 0));
        }
        x.show(2, 0);
        due(0, x.element(2, 0));
        x.show(2, NONE);
        due(0, x.element(2, 0));
        row(2, 3, Long.MIN_VALUE);
        due(Long.MIN_VALUE, x.element(2, 0));
        due(0, x.status(12) + x.status(13) + x.status(14));
    }

    static void promise6() {
        for (int sort = 0; sort <= 4; sort++) {
            x.row(sort, sort, 1);
            due(sort, x.holds(sort));
        }
        x.word(0);
        x.word(1);
        x.show(5, 0);
        x.show(6, 1);
        due(10, x.holds(5));
        due(11, x.holds(6));
        none(() -> x.holds(7), () -> x.holds(-1), () -> x.holds(8), () -> x.holds(MIN), () -> x.holds(MAX));
    }

    static void promise7() {
        x.word(0);
        x.word(0);
        due(1, x.show(0, 1));
        due(11, x.holds(0));
        due(1, x.show(0, 0));
        due(10, x.holds(0));
        due(1, x.show(0, NONE));
        due(NONE, x.holds(0));
        x.row(7, 0, 1);
        due(1, x.show(7, NONE));
        due(NONE, x.holds(7));
        x.row(7, 0, 1);
        due(1, x.show(7, 1));
        due(11, x.holds(7));
        badShelf(s -> () -> x.show(s, 0));
        badShelf(s -> () -> x.show(s, NONE));
        badUnless(-1, 1, ask -> () -> x.show(0, ask));
    }

    /** What an ask says, by each sort it could be taken for; OTHER is a refusal. */
    private static void says(int ask, int... want) {
        x.show(6, ask);
        for (int as = 0; as <= 6; as++) {
            int taken = as;
            if (want[as] == OTHER) {
                refuses(OTHER, () -> x.says(6, taken));
            } else {
                due(want[as], x.says(6, as));
            }
        }
    }

    static void promise8() {
        // places 0 a, 1 b., 2 a, 3 c/, 4 c, 5 c
        text("ab.ac/cc");
        x.word(0);
        x.word(2);
        row(0, 0, 2, 2);
        x.phrase(0, 2);
        x.region(1);
        x.pair(2, 0, 1);
        x.pair(3, 1, 0);
        x.pair(4, 0, 1);
        x.pair(5, 1, 3);
        x.pair(6, 1, 2);
        x.pair(7, 3, 0);
        x.pair(8, 3, 0);
        x.brief(2, 1);
        x.some(3, 0, 1, 2);
        x.pair(2, 0, 0);
        says(0, 2, 0, OTHER, OTHER, OTHER, OTHER, OTHER);
        says(1, 3, 2, OTHER, OTHER, OTHER, OTHER, OTHER);
        says(2, 2, 2, OTHER, OTHER, OTHER, OTHER, OTHER);
        says(3, 2, 1, OTHER, OTHER, OTHER, OTHER, OTHER);
        says(4, 5, OTHER, 1, 0, OTHER, OTHER, OTHER);
        // 203 alone: 3 from 0 holds it
        says(5, 1, OTHER, 100, 4, OTHER, OTHER, OTHER);
        says(6, 1, OTHER, 1, 4, OTHER, OTHER, OTHER);
        says(7, 3, OTHER, 103, OTHER, 0, OTHER, OTHER);
        // 'cc' is 304 and 405, so every c lies in one
        says(8, 0, OTHER, 102, OTHER, 3, OTHER, OTHER);
        says(9, 1, OTHER, 300, OTHER, 1, OTHER, OTHER);
        says(10, 1, OTHER, 300, OTHER, 1, OTHER, OTHER);
        says(11, 0, OTHER, OTHER, OTHER, OTHER, 1, OTHER);
        says(12, 1, OTHER, OTHER, OTHER, OTHER, OTHER, 3);
        says(13, 2, OTHER, 0, 2, OTHER, OTHER, OTHER);
    }

    static void promise8Refusals() {
        x.word(0);
        x.show(0, 0);
        x.row(1, 0, 1);
        badShelf(s -> () -> x.says(s, 0));
        for (int s : new int[] {0, 1, 2}) {
            badUnless(0, 6, as -> () -> x.says(s, as));
        }
        refuses(OTHER, () -> x.says(1, 0), () -> x.says(1, 6));
        refuses(NOTHING, () -> x.says(2, 0), () -> x.says(2, 6));
    }

    public static void main(String[] args) {
        run("1", ShelvesTest::promise1);
        run("2", ShelvesTest::promise2);
        run("3", ShelvesTest::promise3);
        run("4", ShelvesTest::promise4);
        run("4, refusals", ShelvesTest::promise4Refusals);
        run("5", ShelvesTest::promise5);
        run("6", ShelvesTest::promise6);
        run("7", ShelvesTest::promise7);
        run("8", ShelvesTest::promise8);
        run("8, refusals", ShelvesTest::promise8Refusals);
        close();
    }
}
