/** Promises 9 to 15, 25 and 50 to 54: the text, the tape, draws, images and status. */
public final class TextTest extends Checks {
    private TextTest() { }

    static void promise9() {
        due(0, x.write(0));
        due(1, x.write(15));
        due(15, x.placeOf(1, 0));
        due(0, x.placeOf(1, 1));
        x.end(2);
        due(2, x.write(3));
        due(0, x.placeOf(2, 1));
        due(1, x.placeOf(2, 3));
        x.word(3);
        dueList("202", 0);
        badWord(word -> () -> x.write(word));
        for (int place = 3; place < 60; place++) {
            due(place, x.write(1));
        }
        refuses(FULL, () -> x.write(1), () -> x.write(0));
        badWord(word -> () -> x.write(word));
        dueList("202", 0);
    }

    static void promise10() {
        refuses(STUCK, () -> x.end(1), () -> x.end(2));
        badUnless(1, 2, mark -> () -> x.end(mark));
        x.write(0);
        x.region(1);
        badUnless(1, 2, mark -> () -> x.end(mark));
        due(0, x.end(1));
        due(1, x.placeOf(0, 1));
        refuses(STUCK, () -> x.end(1));
        due(1, x.end(2));
        due(2, x.placeOf(0, 1));
        refuses(STUCK, () -> x.end(1), () -> x.end(2));
        x.write(0);
        dueList("0 101", 0);
        due(0, x.end(2));
        dueList("0 101", 0);
        due(2, x.placeOf(0, 1));
    }

    static void promise11() {
        text("ab.");
        x.word(2);
        dueList("", 0);
        due(0, x.change(0, 2));
        due(2, x.change(0, 2));
        dueList("0", 0);
        due(1, x.change(1, 15));
        due(15, x.placeOf(1, 0));
        due(1, x.placeOf(1, 1));
        badPlace(place -> () -> x.change(place, 0));
        badWord(word -> () -> x.change(0, word));
    }

    static void promise12() {
        text("abc");
        x.word(0);
        due(0, x.stand(1, 0, 1));
        due(1, x.stand(1, 0, 1));
        dueList("0 101", 0);
        // c stands for b, and b for a, but that doesn't hand a on to c
        due(0, x.stand(2, 1, 1));
        dueList("0 101", 0);
        due(6, x.placeOf(2, 4));
        due(2, x.status(5));
        due(1, x.stand(1, 0, 0));
        due(0, x.stand(1, 0, 0));
        dueList("0", 0);
        due(0, x.stand(0, 15, 1));
        due(32769, x.placeOf(0, 4));
        due(0, x.stand(15, 0, 0));
        due(2, x.status(5));
        refuses(BAD, () -> x.stand(0, 0, 1), () -> x.stand(15, 15, 0));
        badUnless(0, 1, is -> () -> x.stand(0, 1, is));
        badWord(word -> () -> x.stand(word, 3, 1));
        badWord(word -> () -> x.stand(3, word, 1));
    }

    static void promise13() {
        due(1, x.feed(0));
        due(2, x.feed(255));
        badUnless(0, 255, letter -> () -> x.feed(letter));
        for (int size = 3; size <= 250; size++) {
            due(size, x.feed(32));
        }
        refuses(FULL, () -> x.feed(97), () -> x.feed(0));
        badUnless(0, 255, letter -> () -> x.feed(letter));
        due(250, x.status(6));
        x.wipe();
        due(1, x.feed('c'));
        due(1, x.text());
        due(2, x.placeOf(0, 0));
    }

    static void promise14() {
        due(0, x.wipe());
        feed("abc");
        due(3, x.wipe());
        due(0, x.status(6));
        due(0, x.wipe());
        feed("d");
        due(1, x.text());
        due(3, x.placeOf(0, 0));
        feed("a".repeat(250));
        due(250, x.wipe());
        due(1, x.status(0));
    }

    private static void badText(String text, int fault) {
        refusesAs(BAD, -20 - fault, () -> text(text));
        due(0, x.status(6));
    }

    static void promise15() {
        due(4, text(" a b./ p " + "a"));
        due(0, x.placeOf(0, 0));
        due(1, x.placeOf(1, 0));
        due(15, x.placeOf(2, 0));
        due(0, x.placeOf(0, 1));
        due(2, x.placeOf(1, 1));
        due(0, x.placeOf(2, 1));
        due(0, x.status(6));
        due(0, text("."));
        due(1, x.placeOf(3, 1));
        badText(".", 0);
        badText(" . a", 1);
        due(1, text("/ c"));
        due(2, x.placeOf(3, 1));
        due(0, x.placeOf(4, 1));
        due(0, text(" /"));
        badText("/", 0);
        badText(".", 0);
        badText("a/b.c//", 6);
        due(54, text("abcdefghijklmnop".repeat(4).substring(0, 54)));
        due(59, x.status(0));
        refuses(FULL, () -> text(".ab"));
        due(0, x.status(6));
        badText("abcq", 3);
        due(1, text(". a"));
        due(1, x.placeOf(58, 1));
        refuses(FULL, () -> text("a"));
        refuses(FULL, () -> text("/a."));
        x.region(0);
        dueList("1 203 404 558 5959", 0);
        due(0, text("/"));
        due(60, x.status(0));
    }

    static void promise15Faults() {
        badText("", 0);
        badText("  ", 2);
        badText(" ".repeat(250), 250);
        badText(".", 0);
        badText(" / a", 1);
        badText("a..", 2);
        badText("a/.", 2);
        badText("a/ /", 3);
        badText("a./.", 3);
        badText("a.. q", 2);
        badText("aq", 1);
        badText("ab`", 2);
        badText("abA", 2);
        badText("a\0", 1);
        badText("a\377", 1);
        badText("a\n", 1);
        badText("a-", 1);
        badText("a0", 1);
        badText("a".repeat(61) + "q", 61);
        refuses(FULL, () -> text("a".repeat(61)));
        due(60, text("a".repeat(60)));
    }

    static void promise25() {
        text("ab.c/d./e.f");
        x.stand(5, 2, 1);
        x.stand(5, 15, 1);
        int[][] want = {
            {0, 0, 0, 0, 1}, {1, 1, 0, 0, 2}, {2, 2, 1, 0, 4}, {3, 2, 2, 1, 8}, {4, 1, 3, 2, 16},
            {5, 0, 4, 2, 32 + 4 + 32768}
        };
        for (int place = 0; place < 6; place++) {
            for (int what = 0; what <= 4; what++) {
                due(want[place][what], x.placeOf(place, what));
            }
        }
        x.end(2);
        due(4, x.placeOf(5, 2));
        due(2, x.placeOf(5, 3));
        badPlace(place -> () -> x.placeOf(place, 0));
        badUnless(0, 4, what -> () -> x.placeOf(0, what));
    }

    static void promise50() {
        int[] draws = draws(1, 120);
        due(3, x.days(3));
        due(57 + 3, x.days(57));
        for (int day = 0; day < 60; day++) {
            due(draws[2 * day] % 16, x.placeOf(day, 0));
            int drawn = draws[2 * day + 1] % 8;
            due(drawn == 0 ? 2 : drawn <= 2 ? 1 : 0, x.placeOf(day, 1));
        }
        due(60, x.days(60));
        due(60, x.days(1));
        badUnless(1, 60, n -> () -> x.days(n));
        x.seed(0);
        x.days(1);
        // three draws, as there is no room
        due((12345 * 1103515245 + 12345) * 1103515245 + 12345, x.status(7));
    }

    private static int[] draws(int seed, int n) {
        int[] draws = new int[n];
        int now = seed;
        for (int i = 0; i < n; i++) {
            now = now * 1103515245 + 12345;
            draws[i] = now >>> 16;
        }
        return draws;
    }

    static void promise50Full() {
        text("a".repeat(59));
        x.word(0);
        due(59, x.many(0));
        x.seed(77);
        int[] draws = draws(77, 200);
        int[] words = new int[60];
        int size = 59;
        int mark = 0;
        int at = 0;
        for (int day = 0; day < 40; day++) {
            int word = draws[at++] % 16;
            if (size < 60) {
                words[size++] = word;
                mark = 0;
            } else {
                words[draws[at++] % 60] = word;
            }
            int drawn = draws[at++] % 8;
            mark = drawn == 0 ? 2 : drawn <= 2 && mark == 0 ? 1 : mark;
            due(60, x.days(1));
            due(mark, x.placeOf(59, 1));
        }
        int left = 0;
        for (int place = 0; place < 60; place++) {
            due(words[place], x.placeOf(place, 0));
            left += words[place] == 0 ? 1 : 0;
        }
        due(left, x.many(0));
    }

    static void promise51() {
        due(1, x.seed(5));
        due(5, x.seed(MIN));
        due(MIN, x.status(7));
        due(MIN, x.seed(MAX));
        due(MAX, x.seed(0));
        x.image();
        x.seed(9);
        x.back();
        due(0, x.seed(1));
    }

    static void promise52() {
        text("ab.");
        x.word(0);
        x.stand(2, 3, 1);
        x.seed(4);
        due(1, x.image());
        text("/c");
        x.word(1);
        x.change(0, 7);
        due(1, x.image());
        x.wipe();
        x.write(3);
        x.back();
        due(3, x.status(0));
        due(7, x.placeOf(0, 0));
        due(2, x.status(3));
        due(2, x.placeOf(1, 1));
    }

    static void promise53() {
        refuses(STUCK, () -> x.back());
        text("ab.");
        x.word(0);
        x.pair(3, 0, 0);
        x.stand(2, 3, 1);
        x.seed(4);
        x.row(1, 2, 2);
        x.show(0, 1);
        due(1, x.image());
        text("/c");
        x.change(0, 7);
        x.drop();
        due(NONE, x.holds(0));
        x.word(1);
        x.word(2);
        x.stand(2, 3, 0);
        x.stand(0, 1, 1);
        x.seed(99);
        x.set(1, 0, 8);
        x.show(2, 0);
        x.show(3, 1);
        x.show(4, 2);
        feed("xy");
        dueList("202", 2);
        refuses(BAD, () -> x.write(99));
        due(1, x.back());
        due(2, x.status(0));
        due(0, x.placeOf(0, 0));
        due(1, x.placeOf(1, 1));
        due(2, x.status(3));
        duePair(1, 3, 0, 0);
        dueList("0", 1);
        due(1, x.status(5));
        due(1, x.stand(2, 3, 1));
        due(4, x.status(7));
        due(8, x.element(1, 0));
        due(NONE, x.holds(0));
        due(10, x.holds(2));
        due(11, x.holds(3));
        due(1, x.says(3, 0));
        due(NONE, x.holds(4));
        due(2, x.status(6));
        due(1, x.status(12));
        x.drop();
        x.drop();
        x.write(1);
        due(1, x.back());
        due(2, x.status(0));
        due(2, x.status(3));
        due(NONE, x.holds(2));
    }

    /** Asks come back with all that they were, whatever stood at their numbers since. */
    static void promise53Asks() {
        text("abcab");
        ask("{2 'ab', b, c}^3");
        x.brief(4, 2);
        String was = seen();
        x.image();
        while (x.status(3) > 0) {
            x.drop();
        }
        ask("p");
        ask("T|(a<b<c<a<b)");
        x.change(1, 3);
        due(1, x.back());
        due(1, was.equals(seen()) ? 1 : 0);
        dueLeaf(0, 1, 0);
        dueAsk(3, 11, 0, 1, 2, 2);
        dueList("1 102 304", 3);
    }

    static void promise54() {
        text("ab.ca/d");
        x.word(0);
        x.stand(1, 2, 1);
        x.stand(2, 1, 1);
        x.stand(2, 3, 1);
        feed("zz");
        x.row(7, 0, 0);
        x.show(3, 0);
        int[] want = {5, 3, 2, 1, 4, 3, 2, 1, 2, -1, -1, -1, 0, 0, 0, 0, 0};
        for (int what = 0; what < want.length; what++) {
            due(want[what], x.status(what));
        }
        x.change(0, 7);
        due(5, x.status(4));
        x.change(4, 7);
        due(4, x.status(4));
        none(() -> x.status(-1), () -> x.status(9), () -> x.status(11), () -> x.status(17), () -> x.status(MIN),
            () -> x.status(MAX));
        x.row(9, 0, 0);
        x.says(7, 0);
        x.says(7, 0);
        for (int i = 0; i < 3; i++) {
            x.says(0, 0);
        }
        for (int i = 0; i < 4; i++) {
            x.back();
        }
        text("a");
        x.ask();
        due(3, x.status(12));
        due(2, x.status(13));
        due(3, x.status(14));
        due(4, x.status(15));
        due(0, x.status(16));
        due(0, x.status(6));
        x.wipe();
        text("a".repeat(56));
        due(1, x.status(16));
        x.end(2);
        due(2, x.status(2));
        due(3, x.status(1));
        x.write(0);
        due(3, x.status(2));
        due(4, x.status(1));
    }

    public static void main(String[] args) {
        run("9", TextTest::promise9);
        run("10", TextTest::promise10);
        run("11", TextTest::promise11);
        run("12", TextTest::promise12);
        run("13", TextTest::promise13);
        run("14", TextTest::promise14);
        run("15", TextTest::promise15);
        run("15, faults", TextTest::promise15Faults);
        run("25", TextTest::promise25);
        run("50", TextTest::promise50);
        run("50, full", TextTest::promise50Full);
        run("51", TextTest::promise51);
        run("52", TextTest::promise52);
        run("53", TextTest::promise53);
        run("53, asks", TextTest::promise53Asks);
        run("54", TextTest::promise54);
        close();
    }
}
