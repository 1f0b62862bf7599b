/** Boundary cases of promises 1 to 8: a new object, and the shelves. */
final class EdgesOfShelves extends Edges {
    private EdgesOfShelves() { }

    static void all() {
        newObject();
        row();
        set();
        copy();
        copyRefusals();
        element();
        holds();
        show();
        says();
        saysRefusals();
    }

    /** Rows of 5, 3 and 0 ints in 0, 7 and 6, of 3 longs in 2, of 2 bytes in 1; an ask in 5. */
    private static void rows() {
        busy();
        row(7, 2, 9, 8, 7);
        x.row(6, 2, 0);
    }

    private static void newObject() {
        in("Promise 1");
        edge("No PLACES, no ASKS, no WORD STANDS for another;", () -> {
            // what another object has is not in this one
            busy();
            again();
            for (int what : new int[] {0, 1, 2, 3, 4, 5}) {
                due(0, x.status(what));
            }
            for (int word = 0; word < 16; word++) {
                for (int other = 0; other < 16; other++) {
                    due(word == other ? BAD : 0, x.stand(word, other, 0));
                }
            }
            due(STUCK, x.end(1));
            due(STUCK, x.drop());
            due(STUCK, x.back());
            due(1, x.seed(1));
            refused(BAD, Edges::fresh, () -> x.placeOf(0, 0), () -> x.change(0, 0), () -> x.many(0), () -> x.askOf(0, 0));
        });
        edge("SHELVES hold NOTHING;", () -> {
            due(0, x.status(8));
            for (int s = 0; s <= 7; s++) {
                due(NONE, x.holds(s));
                due(0, x.element(s, 0));
                due(NOTHING, x.set(s, 0, 1));
                due(NOTHING, x.says(s, 0));
                due(NOTHING, x.copy(s, 7 - s, 0, 0, 0));
                due(NOTHING, x.phrase(s, 2));
            }
        });
        edge("THE TAPE is empty.", () -> {
            due(0, x.status(6));
            due(0, x.wipe());
            due(-20, x.text());
            due(-20, x.ask());
            due(2, x.status(12));
            due(1, x.feed('a'));
        });
    }

    private static void row() {
        in("Promise 2");
        edge("SHELF s holds a new ROW: 1.", () -> {
            for (int s : new int[] {0, 7}) {
                for (int sort : new int[] {0, 4}) {
                    due(1, x.row(s, sort, 40));
                    due(sort, x.holds(s));
                    due(1, x.set(s, 39, 1));
                    due(1, x.row(s, sort, 40));
                    due(0, x.element(s, 39));
                    due(1, x.row(s, sort, 0));
                    due(sort, x.holds(s));
                    due(BAD, x.set(s, 0, 1));
                    due(1, x.row(s, sort, 1));
                    due(1, x.set(s, 0, 1));
                    due(BAD, x.set(s, 1, 1));
                }
            }
            x.word(0);
            x.show(3, 0);
            due(1, x.row(3, 2, 2));
            due(2, x.holds(3));
            due(0, x.element(3, 0));
        });
        edge("BAD.", () -> {
            for (int held : new int[] {0, 5, 6}) {
                beyond(Edges::busy, 0, 4, sort -> () -> x.row(held, sort, 2));
                beyond(Edges::busy, 0, 40, n -> () -> x.row(held, 2, n));
            }
            beyond(Edges::busy, 0, 7, s -> () -> x.row(s, 2, 2));
            beyond(Edges::full, 0, 7, s -> () -> x.row(s, 0, 0));
        });
    }

    private static void set() {
        in("Promise 3");
        edge("Element i of the ROW in SHELF s becomes v: 1.", () -> {
            for (int s : new int[] {0, 7}) {
                x.row(s, 3, 40);
                due(1, x.set(s, 0, MIN));
                due(1, x.set(s, 39, Long.MAX_VALUE));
                due(MIN, x.element(s, 0));
                due(0, x.element(s, 1));
                due(0, x.element(s, 38));
                due(Long.MAX_VALUE, x.element(s, 39));
            }
            x.row(1, 0, 1);
            due(1, x.set(1, 0, 384));
            due(-128, x.element(1, 0));
        });
        edge("BAD SHELF;", () -> beyond(Edges::busy, 0, 7, s -> () -> x.set(s, 0, 1)));
        edge("OTHER;", () -> refused(OTHER, Edges::busy, () -> x.set(5, 0, 1), () -> x.set(5, -1, 1), () -> x.set(5, 40, 1)));
        edge("NOTHING;", () -> refused(NOTHING, Edges::busy, () -> x.set(6, 0, 1), () -> x.set(7, -1, 1), () -> x.set(7, 40, 1)));
        edge("BAD i.", () -> {
            beyond(Edges::busy, 0, 4, i -> () -> x.set(0, i, 7));
            beyond(Edges::busy, 0, -1, i -> () -> x.set(3, i, 7));
            beyond(Edges::full, 0, 39, i -> () -> x.set(7, i, 7));
        });
    }

    private static void copy() {
        in("Promise 4");
        edge("n elements of the ROW in SHELF p from place i on come to places j on of that in q (as they were): n.", () -> {
            x.row(0, 1, 40);
            x.row(7, 1, 40);
            for (int i = 0; i < 40; i++) {
                x.set(0, i, i + 1);
            }
            due(40, x.copy(0, 7, 0, 0, 40));
            for (int i = 0; i < 40; i++) {
                due(i + 1, x.element(7, i));
            }
            due(1, x.copy(0, 7, 39, 0, 1));
            due(40, x.element(7, 0));
            due(1, x.copy(0, 7, 0, 39, 1));
            due(1, x.element(7, 39));
            due(0, x.copy(0, 7, 0, 0, 0));
            due(40, x.element(7, 0));
            // one row onto itself, ahead and back: each as it was, and not as it became
            due(39, x.copy(0, 0, 0, 1, 39));
            due(1, x.element(0, 0));
            for (int i = 1; i < 40; i++) {
                due(i, x.element(0, i));
            }
            due(39, x.copy(0, 0, 1, 0, 39));
            for (int i = 0; i < 39; i++) {
                due(i + 1, x.element(0, i));
            }
            due(39, x.element(0, 39));
            x.row(1, 1, 0);
            due(0, x.copy(1, 1, 0, 0, 0));
            due(0, x.copy(0, 1, 0, 0, 0));
            due(0, x.copy(0, 7, 40, 40, 0));
        });
        edge("(as they were)", () -> {
            for (int sort = 0; sort <= 4; sort++) {
                x.row(2, sort, 2);
                x.row(3, sort, 2);
                x.set(2, 1, -1);
                due(2, x.copy(2, 3, 0, 0, 2));
                due(0, x.element(3, 0));
                due(sort == 4 ? 1 : -1, x.element(3, 1));
                due(sort == 4 ? 1 : -1, x.element(2, 1));
            }
        });
    }

    private static void copyRefusals() {
        edge("BAD SHELVES;", () -> {
            beyond(EdgesOfShelves::rows, 0, 7, p -> () -> x.copy(p, 0, 0, 0, 1));
            beyond(EdgesOfShelves::rows, 0, 7, q -> () -> x.copy(0, q, 0, 0, 1));
            // ahead of what the other one holds
            refused(BAD, Edges::busy, () -> x.copy(-1, 5, 0, 0, 1), () -> x.copy(5, 8, 0, 0, 1), () -> x.copy(6, -1, 0, 0, 1));
        });
        edge("OTHER (also ROWS of two SORTS, if both hold something);", () -> {
            refused(OTHER, Edges::busy, () -> x.copy(5, 0, 0, 0, 1), () -> x.copy(0, 5, 0, 0, 1), () -> x.copy(5, 5, 0, 0, 0),
                () -> x.copy(5, 6, 0, 0, 1), () -> x.copy(6, 5, 0, 0, 1), () -> x.copy(5, 0, -1, 99, MIN));
            refused(OTHER, EdgesOfShelves::rows, () -> x.copy(0, 1, 0, 0, 1), () -> x.copy(1, 2, 0, 0, 1),
                () -> x.copy(2, 7, -1, 0, 1), () -> x.copy(3, 6, 0, 0, 0), () -> x.copy(4, 0, 0, 0, 41));
        });
        edge("NOTHING;", () -> refused(NOTHING, Edges::busy, () -> x.copy(6, 0, 0, 0, 1), () -> x.copy(0, 6, 0, 0, 1),
            () -> x.copy(6, 7, 0, 0, 0), () -> x.copy(6, 6, -1, -1, -1), () -> x.copy(0, 7, 5, 0, 1), () -> x.copy(7, 3, 0, 40, 0)));
        edge("BAD the others.", () -> {
            // of 5 to 3
            beyond(EdgesOfShelves::rows, 0, 4, i -> () -> x.copy(0, 7, i, 0, 1));
            beyond(EdgesOfShelves::rows, 0, 2, j -> () -> x.copy(0, 7, 0, j, 1));
            beyond(EdgesOfShelves::rows, 0, 3, n -> () -> x.copy(0, 7, 0, 0, n));
            beyond(EdgesOfShelves::rows, 0, 3, n -> () -> x.copy(7, 0, 0, 0, n));
            beyond(EdgesOfShelves::rows, 0, 0, n -> () -> x.copy(6, 6, 0, 0, n));
            refused(BAD, EdgesOfShelves::rows, () -> x.copy(0, 0, 1, 0, 5), () -> x.copy(0, 0, 0, 1, 5),
                () -> x.copy(0, 7, 3, 0, 3), () -> x.copy(7, 0, 0, 4, 2), () -> x.copy(0, 7, MAX, MAX, MAX),
                () -> x.copy(0, 7, MAX, 0, 2), () -> x.copy(0, 7, 0, MAX, 2), () -> x.copy(0, 7, 1, 1, MAX),
                () -> x.copy(0, 7, MIN, MIN, MIN), () -> x.copy(6, 7, 0, 0, 1));
            refused(BAD, Edges::full, () -> x.copy(0, 5, 0, 0, 41), () -> x.copy(0, 5, 1, 0, 40), () -> x.copy(0, 5, 0, 1, 40));
        });
    }

    private static void element() {
        in("Promise 5");
        edge("Element i of the ROW;", () -> {
            for (int s : new int[] {0, 7}) {
                x.row(s, 3, 40);
                x.set(s, 0, Long.MIN_VALUE);
                x.set(s, 39, Long.MAX_VALUE);
                due(Long.MIN_VALUE, x.element(s, 0));
                due(0, x.element(s, 1));
                due(Long.MAX_VALUE, x.element(s, 39));
            }
        });
        edge("0: none, no ROW (nothing is refused).", () -> {
            row(0, 2, 5, 6);
            x.word(0);
            x.show(1, 0);
            for (int i : new int[] {MIN, -1, 2, 39, 40, MAX}) {
                due(0, x.element(0, i));
            }
            // an ask, nothing, and no shelf; and what was there ahead of them
            for (int s : new int[] {1, 2, -1, 8, MIN, MAX}) {
                due(0, x.element(s, 0));
                due(0, x.element(s, -1));
            }
            x.row(0, 2, 0);
            due(0, x.element(0, 0));
            row(0, 2, 5);
            x.show(0, NONE);
            due(0, x.element(0, 0));
            row(0, 2, 5);
            x.show(0, 0);
            due(0, x.element(0, 0));
            for (int what = 12; what <= 16; what++) {
                due(0, x.status(what));
            }
        });
    }

    private static void holds() {
        in("Promise 6");
        edge("What SHELF s holds: NONE NOTHING, no SHELF;", () -> {
            for (int s = 0; s <= 7; s++) {
                due(NONE, x.holds(s));
            }
            for (int s : new int[] {MIN, -1, 8, MAX}) {
                due(NONE, x.holds(s));
            }
            due(0, x.status(12));
            changesNothing(Edges::busy, () -> due(4 * NONE, x.holds(-1) + x.holds(8) + x.holds(6) + x.holds(MAX)));
        });
        edge("0 to 4 a ROW by its SORT;", () -> {
            for (int sort = 0; sort <= 4; sort++) {
                x.row(0, sort, 0);
                x.row(7, 4 - sort, 40);
                due(sort, x.holds(0));
                due(4 - sort, x.holds(7));
            }
        });
        edge("10 and the number of an ASK.", () -> {
            words(24);
            for (int ask = 0; ask < 24; ask++) {
                x.show(7 - ask % 8, ask);
                due(10 + ask, x.holds(7 - ask % 8));
            }
        });
    }

    private static void show() {
        in("Promise 7");
        edge("SHELF s holds an ASK, or NOTHING (ask NONE): 1.", () -> {
            words(24);
            for (int s : new int[] {0, 7}) {
                due(1, x.show(s, 0));
                due(10, x.holds(s));
                due(1, x.show(s, 23));
                due(33, x.holds(s));
                due(1, x.show(s, NONE));
                due(NONE, x.holds(s));
                due(1, x.show(s, NONE));
                x.row(s, 1, 40);
                due(1, x.show(s, 23));
                due(33, x.holds(s));
                x.row(s, 1, 40);
                due(1, x.show(s, NONE));
                due(NONE, x.holds(s));
            }
            due(0, x.status(8));
        });
        edge("BAD.", () -> {
            for (int held : new int[] {0, 5, 6}) {
                beyond(Edges::busy, NONE, 7, ask -> () -> x.show(held, ask));
                beyond(Edges::full, NONE, 23, ask -> () -> x.show(held, ask));
                beyond(Edges::fresh, NONE, -1, ask -> () -> x.show(held, ask));
            }
            beyond(Edges::busy, 0, 7, s -> () -> x.show(s, 0));
            beyond(Edges::busy, 0, 7, s -> () -> x.show(s, NONE));
        });
    }

    /** What an ask says, taken for each sort. */
    private static void says(int ask, int... want) {
        x.show(7, ask);
        for (int as = 0; as <= 6; as++) {
            due(want[as], x.says(7, as));
        }
    }

    private static void says() {
        in("Promise 8");
        edge("What the ASK in SHELF s, taken for one of a sort (as), says: 0 any: how many SPANS;", () -> {
            x.word(0);
            x.show(0, 0);
            x.show(7, 0);
            due(0, x.says(0, 0));
            places(60, 0);
            due(60, x.says(0, 0));
            due(60, x.says(7, 0));
        });
        edge("1 a LEAF (WORD, PHRASE, REGION): its WORD, its first WORD, its REGION;", () -> {
            ask("a|p|'pa'|'apa'|S|T");
            says(0, 0, 0, OTHER, OTHER, OTHER, OTHER, OTHER);
            says(1, 0, 15, OTHER, OTHER, OTHER, OTHER, OTHER);
            says(3, 0, 15, OTHER, OTHER, OTHER, OTHER, OTHER);
            says(5, 0, 0, OTHER, OTHER, OTHER, OTHER, OTHER);
            says(7, 0, 0, OTHER, OTHER, OTHER, OTHER, OTHER);
            says(9, 0, 2, OTHER, OTHER, OTHER, OTHER, OTHER);
        });
        edge("2 a PAIR (KINDS 2 to 8): 100 times the number of its x, and that of its y;", () -> {
            words(22);
            for (int kind = 2; kind <= 8; kind++) {
                x.pair(kind, 21, 0);
                x.show(0, 22);
                due(2100, x.says(0, 2));
                x.drop();
            }
            x.pair(4, 0, 21);
            x.pair(8, 22, 22);
            x.show(0, 22);
            x.show(1, 23);
            due(21, x.says(0, 2));
            due(2222, x.says(1, 2));
        });
        edge("3 a MERGE (KINDS 2 to 4): how many SPANS x and y have together, less its own;", () -> {
            // a's 0, 2, 3; b's 1; EITHER 4, BOTH 2, THEN 1 of the one, and THEN 1 of the other
            text("abaa");
            ask("a|b");
            x.pair(3, 0, 1);
            x.pair(4, 0, 1);
            x.pair(4, 1, 0);
            x.pair(2, 0, 0);
            x.word(9);
            x.pair(3, 0, 7);
            x.pair(2, 7, 7);
            says(2, 4, OTHER, 1, 0, OTHER, OTHER, OTHER);
            says(3, 2, OTHER, 1, 2, OTHER, OTHER, OTHER);
            says(4, 1, OTHER, 1, 3, OTHER, OTHER, OTHER);
            says(5, 1, OTHER, 100, 3, OTHER, OTHER, OTHER);
            says(6, 3, OTHER, 0, 3, OTHER, OTHER, OTHER);
            says(8, 0, OTHER, 7, 3, OTHER, OTHER, OTHER);
            says(9, 0, OTHER, 707, 0, OTHER, OTHER, OTHER);
        });
        edge("4 a TEST (KINDS 5 to 8): how many SPANS of x it lets fall;", () -> {
            text("abaa");
            ask("a@'ba'");
            x.pair(6, 0, 1);
            x.pair(7, 0, 1);
            x.pair(8, 0, 1);
            x.pair(7, 1, 0);
            x.pair(8, 1, 0);
            says(2, 1, OTHER, 1, OTHER, 2, OTHER, OTHER);
            says(3, 2, OTHER, 1, OTHER, 1, OTHER, OTHER);
            says(4, 0, OTHER, 1, OTHER, 3, OTHER, OTHER);
            says(5, 3, OTHER, 1, OTHER, 0, OTHER, OTHER);
            says(6, 1, OTHER, 100, OTHER, 0, OTHER, OTHER);
            says(7, 0, OTHER, 100, OTHER, 1, OTHER, OTHER);
        });
        edge("5 a SHORT: its n;", () -> {
            x.region(2);
            says(x.brief(0, 1), 0, OTHER, OTHER, OTHER, OTHER, 1, OTHER);
            says(x.brief(0, 60), 0, OTHER, OTHER, OTHER, OTHER, 60, OTHER);
        });
        edge("6 a SOME: its k.", () -> {
            x.write(4);
            x.word(4);
            says(x.some(1, 0, 0, 0), 1, OTHER, OTHER, OTHER, OTHER, OTHER, 1);
            says(x.some(3, 0, 0, 0), 1, OTHER, OTHER, OTHER, OTHER, OTHER, 3);
        });
    }

    private static void saysRefusals() {
        edge("BAD SHELF, as;", () -> {
            beyond(Edges::busy, 0, 7, s -> () -> x.says(s, 0));
            // whatever the shelf holds
            for (int s : new int[] {0, 5, 6}) {
                beyond(Edges::busy, 0, 6, as -> () -> x.says(s, as));
            }
        });
        edge("OTHER (also if it isn't such an ASK);", () -> {
            for (int as = 0; as <= 6; as++) {
                int taken = as;
                refused(OTHER, Edges::busy, () -> x.says(0, taken), () -> x.says(3, taken));
                // of asks 0 c, 4 'ab', 5 a & b, 6 a short, 7 a some, and a test
                for (int ask : new int[] {0, 3, 4, 5, 6, 7, 8}) {
                    boolean isSuch = as == 0 || as == (ask == 5 ? 3 : ask == 6 ? 5 : ask == 7 ? 6 : ask == 8 ? 4 : 1)
                        || as == 2 && (ask == 5 || ask == 8);
                    if (!isSuch) {
                        refused(OTHER, () -> { busy(); x.pair(8, 3, 4); x.show(7, ask); }, () -> x.says(7, taken));
                    }
                }
            }
        });
        edge("NOTHING.", () -> {
            for (int as = 0; as <= 6; as++) {
                int taken = as;
                refused(NOTHING, Edges::busy, () -> x.says(6, taken), () -> x.says(7, taken));
            }
            refused(NOTHING, () -> { busy(); x.show(0, 7); x.drop(); }, () -> x.says(0, 0));
        });
    }
}
