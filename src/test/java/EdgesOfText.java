/** Boundary cases of promises 9 to 15, 25, and 50 to 54: the text, the tape, days, the image. */
final class EdgesOfText extends Edges {
    private EdgesOfText() { }

    static void all() {
        write();
        end();
        change();
        stand();
        tape();
        text();
        placeOf();
        days();
        seed();
        image();
        back();
        status();
    }

    private static void write() {
        in("Promise 9");
        edge("A PLACE more, with a WORD, MARK 0: its number.", () -> {
            due(0, x.write(15));
            due(15, x.placeOf(0, 0));
            due(0, x.placeOf(0, 1));
            x.end(2);
            due(1, x.write(0));
            due(0, x.placeOf(1, 0));
            due(0, x.placeOf(1, 1));
            due(2, x.placeOf(0, 1));
            for (int place = 2; place < 60; place++) {
                due(place, x.write(place % 16));
            }
            due(11, x.placeOf(59, 0));
            // where a place was ahead of going back, too, the mark is 0
            again();
            x.image();
            text("ab/");
            x.back();
            due(0, x.write(1));
            due(1, x.write(1));
            due(0, x.placeOf(1, 1));
        });
        edge("BAD;", () -> {
            beyond(Edges::fresh, 0, 15, word -> () -> x.write(word));
            beyond(Edges::busy, 0, 15, word -> () -> x.write(word));
            // ahead of FULL
            beyond(Edges::full, 0, 15, word -> () -> x.write(word));
        });
        edge("FULL.", () -> {
            places(59, 3);
            due(59, x.write(3));
            due(FULL, x.write(3));
            refused(FULL, Edges::full, () -> x.write(0), () -> x.write(15));
            refused(FULL, () -> places(60, 2), () -> x.write(0));
        });
    }

    private static void end() {
        in("Promise 10");
        edge("The MARK of the last PLACE becomes 1 or 2: what it was.", () -> {
            x.write(0);
            due(0, x.end(1));
            due(1, x.end(2));
            x.write(0);
            due(0, x.end(2));
            due(2, x.placeOf(1, 1));
            due(2, x.placeOf(0, 1));
            x.write(0);
            due(0, x.end(1));
            due(1, x.placeOf(2, 1));
            places(57, 0);
            due(0, x.end(2));
            due(2, x.placeOf(59, 1));
        });
        edge("BAD;", () -> {
            beyond(Edges::busy, 1, 2, mark -> () -> x.end(mark));
            // ahead of STUCK
            beyond(Edges::fresh, 1, 2, mark -> () -> x.end(mark));
            beyond(() -> text("a/"), 1, 2, mark -> () -> x.end(mark));
        });
        edge("STUCK: no PLACES, or it isn't less.", () -> {
            refused(STUCK, Edges::fresh, () -> x.end(1), () -> x.end(2));
            refused(STUCK, () -> text("a."), () -> x.end(1));
            refused(STUCK, () -> text("a/"), () -> x.end(1), () -> x.end(2));
            refused(STUCK, () -> text("a./"), () -> x.end(1), () -> x.end(2));
            refused(STUCK, () -> { x.image(); text("a"); x.back(); }, () -> x.end(1));
        });
    }

    private static void change() {
        in("Promise 11");
        edge("A PLACE gets a WORD: which it had.", () -> {
            text("b/".repeat(60));
            for (int place : new int[] {0, 59}) {
                due(1, x.change(place, 15));
                due(15, x.change(place, 0));
                due(0, x.change(place, 0));
                due(0, x.placeOf(place, 0));
                due(2, x.placeOf(place, 1));
            }
            due(1, x.placeOf(1, 0));
            due(1, x.placeOf(58, 0));
            // its word, and not one for which that stands
            x.stand(1, 7, 1);
            due(1, x.change(30, 7));
        });
        edge("BAD.", () -> {
            beyond(Edges::busy, 0, 5, place -> () -> x.change(place, 0));
            beyond(Edges::busy, 0, 15, word -> () -> x.change(0, word));
            beyond(Edges::fresh, 0, -1, place -> () -> x.change(place, 0));
            beyond(Edges::full, 0, 59, place -> () -> x.change(place, 0));
        });
    }

    private static void stand() {
        in("Promise 12");
        edge("A WORD STANDS for another one, or not (is 1, 0): what was (1, 0).", () -> {
            int[][] twos = {{0, 15}, {15, 0}, {0, 1}, {14, 15}};
            for (int[] two : twos) {
                due(0, x.stand(two[0], two[1], 0));
                due(0, x.stand(two[0], two[1], 1));
                due(1, x.stand(two[0], two[1], 1));
            }
            due(4, x.status(5));
            for (int[] two : twos) {
                due(1, x.stand(two[0], two[1], 0));
                due(0, x.stand(two[0], two[1], 0));
            }
            due(0, x.status(5));
            // the one for the other is not the other for the one
            x.stand(3, 4, 1);
            due(0, x.stand(4, 3, 0));
            due(1, x.stand(3, 4, 0));
        });
        edge("BAD: also for itself.", () -> {
            beyond(Edges::busy, 0, 15, word -> () -> x.stand(word, 3, 1));
            beyond(Edges::busy, 0, 15, other -> () -> x.stand(3, other, 1));
            beyond(Edges::busy, 0, 1, is -> () -> x.stand(0, 15, is));
            for (int word : new int[] {0, 7, 15}) {
                refused(BAD, Edges::busy, () -> x.stand(word, word, 1), () -> x.stand(word, word, 0));
            }
        });
    }

    private static void tape() {
        in("Promise 13");
        edge("THE TAPE gets one byte (0 to 255) behind it: its size.", () -> {
            due(1, x.feed(0));
            due(2, x.feed(255));
            for (int size = 3; size <= 250; size++) {
                due(size, x.feed('a'));
            }
            due(250, x.status(6));
            due(-20, x.text());
            due(1, x.feed('b'));
            due(2, x.feed(255));
            due(-21, x.text());
            // behind it, and not ahead of it
            due(2, text("ab"));
            due(1, x.placeOf(1, 0));
        });
        edge("BAD;", () -> {
            beyond(Edges::fresh, 0, 255, letter -> () -> x.feed(letter));
            beyond(Edges::busy, 0, 255, letter -> () -> x.feed(letter));
            // ahead of FULL
            beyond(Edges::full, 0, 255, letter -> () -> x.feed(letter));
            refused(BAD, Edges::calm, () -> x.feed('a' + 256), () -> x.feed('a' - 256));
        });
        edge("FULL.", () -> {
            feed(" ".repeat(249));
            due(250, x.feed('a'));
            due(FULL, x.feed('a'));
            refused(FULL, Edges::full, () -> x.feed(0), () -> x.feed(255));
        });
        in("Promise 14");
        edge("THE TAPE is empty: its size ahead.", () -> {
            due(0, x.wipe());
            x.feed('a');
            due(1, x.wipe());
            due(0, x.wipe());
            due(0, x.status(6));
            due(-20, x.text());
            feed("a".repeat(250));
            due(250, x.wipe());
            due(0, x.status(6));
            due(1, x.feed('c'));
            due(0, x.ask());
            due(0, x.status(0));
        });
    }

    private static void text() {
        in("Promise 15");
        edge("THE TAPE is a TEXT: how many PLACES are new;", () -> {
            due(1, text("p"));
            due(0, text("."));
            due(0, text("/"));
            due(59, text("a".repeat(59)));
            due(60, x.status(0));
            // without room a mark may stand all the same
            due(0, text(" . / "));
            due(2, x.placeOf(59, 1));
            again();
            due(60, text("a./".repeat(60)));
            due(60, x.status(2));
        });
        edge("-20 less the FAULT (that is refused, too: BAD);", () -> {
            refusedAs(BAD, -20, Edges::calm, () -> x.text());
            faultOfText(Edges::calm, "q", 0);
            faultOfText(Edges::calm, "aq", 1);
            // nothing of it comes, not even a mark
            faultOfText(() -> text("a"), ".b/c.q", 5);
            faultOfText(Edges::fresh, " ".repeat(249) + ".", 249);
            faultOfText(Edges::fresh, " ".repeat(250), 250);
            due(-270, text(" ".repeat(250)));
            due(1, x.status(12));
            // a fault comes ahead of what there is no room for
            faultOfText(() -> places(60, 0), "a..", 2);
            faultOfText(() -> places(60, 0), "aq", 1);
            faultOfText(Edges::fresh, "a".repeat(61) + "..", 62);
        });
        edge("FULL: no FAULT, but no room for all its PLACES (nothing of it comes).", () -> {
            refused(FULL, () -> places(60, 0), () -> text("a"), () -> text("./a"));
            refused(FULL, () -> places(59, 0), () -> text("ab"), () -> text(". a b"));
            refused(FULL, () -> places(1, 0), () -> text("a".repeat(60)));
            refused(FULL, Edges::fresh, () -> text("a".repeat(61)), () -> text("a".repeat(250)));
            places(59, 0);
            due(1, text("b"));
            again();
            due(60, text("a".repeat(60)));
            due(FULL, text("a"));
            due(0, x.status(12));
        });
        edge("THE TAPE is empty then, in any case.", () -> {
            text("a");
            due(0, x.status(6));
            text("q");
            due(0, x.status(6));
            text("a".repeat(61));
            due(0, x.status(6));
            x.text();
            due(0, x.wipe());
            due(1, x.feed('c'));
            due(1, x.text());
            due(2, x.placeOf(1, 0));
        });
    }

    private static void placeOf() {
        in("Promise 25");
        edge("Of a PLACE: WORD (0), MARK (1), SENTENCE (2), PART (3), the WORDS it HAS (4; bits).", () -> {
            text("a./".repeat(59) + "p.");
            int[][] want = {{0, 2, 0, 0, 1}, {15, 1, 59, 59, 32768}};
            for (int what = 0; what <= 4; what++) {
                due(want[0][what], x.placeOf(0, what));
                due(want[1][what], x.placeOf(59, what));
            }
            for (int other = 0; other < 15; other++) {
                x.stand(15, other, 1);
            }
            due(65535, x.placeOf(59, 4));
            due(1, x.placeOf(0, 4));
            due(15, x.placeOf(59, 0));
            // the sentence and the part that a place ends are its own
            again();
            text("ab.c/d");
            due(0, x.placeOf(1, 2));
            due(1, x.placeOf(2, 2));
            due(0, x.placeOf(2, 3));
            due(2, x.placeOf(3, 2));
            due(1, x.placeOf(3, 3));
        });
        edge("BAD.", () -> {
            beyond(Edges::busy, 0, 5, place -> () -> x.placeOf(place, 0));
            beyond(Edges::busy, 0, 4, what -> () -> x.placeOf(0, what));
            beyond(Edges::fresh, 0, -1, place -> () -> x.placeOf(place, 4));
            beyond(Edges::full, 0, 59, place -> () -> x.placeOf(place, 4));
            // where a place was ahead of going back
            refused(BAD, () -> { x.image(); text("a"); x.back(); }, () -> x.placeOf(0, 0));
        });
    }

    private static void days() {
        in("Promise 50");
        edge("DAYS by draws, n (1 to 60): how many PLACES there are then.", () -> {
            due(1, x.days(1));
            due(2, x.days(1));
            due(60, x.days(60));
            due(60, x.days(60));
            due(60, x.days(1));
            again();
            due(60, x.days(60));
            // 60 days are as many days one by one
            int seed = x.status(7);
            int word = x.placeOf(59, 0);
            again();
            for (int day = 1; day <= 60; day++) {
                due(day, x.days(1));
            }
            due(seed, x.status(7));
            due(word, x.placeOf(59, 0));
            // places that stand are kept while there is room
            again();
            text("pp/");
            due(3, x.days(1));
            due(15, x.placeOf(1, 0));
            due(2, x.placeOf(1, 1));
            // the lists of asks are those of the places there are then
            x.region(2);
            due(2, x.span(0, 0));
            x.days(1);
            due(3, x.span(0, 0));
        });
        edge("BAD.", () -> {
            beyond(Edges::fresh, 1, 60, n -> () -> x.days(n));
            beyond(Edges::busy, 1, 60, n -> () -> x.days(n));
            beyond(Edges::full, 1, 60, n -> () -> x.days(n));
        });
    }

    private static void seed() {
        in("Promise 51");
        edge("SEED becomes v: the one ahead.", () -> {
            due(1, x.seed(MIN));
            due(MIN, x.status(7));
            due(MIN, x.seed(MAX));
            due(MAX, x.seed(-1));
            due(-1, x.seed(0));
            due(0, x.seed(0));
            due(0, x.status(7));
            due(0, x.status(12));
            changesNothing(Edges::busy, () -> due(MIN, x.seed(x.seed(MIN))));
        });
    }

    private static void image() {
        in("Promise 52");
        edge("All is kept, but THE TAPE, SHELVES and REFUSALS: 1.", () -> {
            due(1, x.image());
            changesNothing(() -> { busy(); x.image(); }, () -> due(1, x.image()));
            // a new object is kept, too
            words(24);
            places(60, 0);
            x.stand(0, 1, 1);
            x.seed(9);
            due(1, x.back());
            for (int what : new int[] {0, 1, 2, 3, 4, 5}) {
                due(0, x.status(what));
            }
            due(1, x.status(7));
        });
        edge("All is kept,", () -> {
            for (int look : new int[] {0, 3, 4, 5, 6, 7, 8, 9}) {
                again();
                x.stand(15, 0, 1);
                x.days(60);
                words(24);
                String was = Looks.at(x, look);
                again();
                x.stand(15, 0, 1);
                x.days(60);
                words(24);
                due(1, x.image());
                for (int place = 0; place < 60; place++) {
                    x.change(place, 3);
                }
                x.end(2);
                x.stand(15, 0, 0);
                x.stand(0, 15, 1);
                x.seed(MIN);
                for (int i = 0; i < 24; i++) {
                    x.drop();
                }
                x.region(2);
                for (int ask = 1; ask < 24; ask++) {
                    x.brief(ask - 1, 60);
                }
                due(1, x.many(23));
                due(1, x.back());
                dueText(was, Looks.at(x, look));
            }
            // the mark of the last place, of 30 and of 60
            for (int size : new int[] {30, 60}) {
                again();
                places(size, 0);
                x.image();
                x.end(2);
                x.back();
                due(0, x.placeOf(size - 1, 1));
                due(0, x.end(1));
            }
            again();
            busy();
            x.image();
            String asks = Looks.at(x, 5);
            String lists = Looks.at(x, 7);
            String places = Looks.at(x, 3);
            x.days(60);
            for (int i = 0; i < 8; i++) {
                x.drop();
            }
            words(24);
            due(1, x.back());
            dueText(asks, Looks.at(x, 5));
            dueText(lists, Looks.at(x, 7));
            dueText(places, Looks.at(x, 3));
        });
        edge("but THE TAPE, SHELVES and REFUSALS", () -> {
            feed("abc");
            row(0, 2, 5);
            x.write(99);
            x.image();
            x.feed('d');
            x.set(0, 0, 6);
            x.row(1, 1, 1);
            x.write(99);
            x.drop();
            due(1, x.back());
            due(4, x.status(6));
            due(6, x.element(0, 0));
            due(1, x.holds(1));
            due(2, x.status(12));
            due(1, x.status(15));
            due(4, x.text());
        });
    }

    private static void back() {
        in("Promise 53");
        edge("All is again as it was kept", () -> {
            text("ab.");
            x.word(1);
            x.image();
            // once more, and each time as it was kept last
            for (int i = 0; i < 3; i++) {
                text("/cd");
                x.word(3);
                x.change(0, 9);
                due(1, x.back());
                due(2, x.status(0));
                due(1, x.status(3));
                due(0, x.placeOf(0, 0));
                due(1, x.placeOf(1, 1));
                dueList("101", 0);
            }
            x.write(1);
            x.image();
            x.write(1);
            due(1, x.back());
            due(3, x.status(0));
            dueList("101 202", 0);
            // an ask over others has its list, though theirs are not looked at first
            again();
            text("abcab");
            ask("'ab'|'bc'<a");
            x.image();
            for (int i = 0; i < 5; i++) {
                x.drop();
            }
            words(5);
            for (int ask = 0; ask < 5; ask++) {
                x.many(ask);
            }
            x.back();
            dueList("1 103 304", 4);
            x.back();
            dueList("103", 3);
            dueList("1 304", 0);
            changesNothing(() -> { busy(); x.image(); }, () -> due(1, x.back()));
        });
        edge("(SHELVES with ASKS hold those of the same numbers, or NOTHING): 1.", () -> {
            words(2);
            x.image();
            words(22);
            x.show(0, 0);
            x.show(1, 1);
            x.show(2, 2);
            x.show(7, 23);
            x.row(3, 0, 1);
            due(1, x.back());
            due(10, x.holds(0));
            due(11, x.holds(1));
            due(NONE, x.holds(2));
            due(NONE, x.holds(7));
            due(0, x.holds(3));
            due(3, x.status(8));
            // the number is the same, and the ask another one
            x.drop();
            x.drop();
            ask("T");
            x.show(4, 0);
            due(2, x.says(4, 1));
            due(1, x.back());
            due(10, x.holds(4));
            due(0, x.says(4, 1));
            // a shelf whose ask was dropped stays with nothing
            x.show(5, 1);
            x.drop();
            due(1, x.back());
            due(NONE, x.holds(5));
            due(2, x.status(3));
        });
        edge("STUCK: nothing was.", () -> {
            refused(STUCK, Edges::fresh, () -> x.back());
            refused(STUCK, Edges::full, () -> x.back());
            due(STUCK, x.back());
            x.image();
            due(1, x.back());
            due(1, x.back());
            due(1, x.status(15));
        });
    }

    private static void status() {
        in("Promise 54");
        edge("PLACES (0), SENTENCES (1), PARTS (2), ASKS (3),", () -> {
            for (int what = 0; what <= 3; what++) {
                due(0, x.status(what));
            }
            x.write(0);
            x.word(0);
            for (int what = 0; what <= 3; what++) {
                due(1, x.status(what));
            }
            text("a.a/a./a.");
            due(5, x.status(0));
            due(4, x.status(1));
            due(3, x.status(2));
            x.write(0);
            due(5, x.status(1));
            due(3, x.status(2));
            again();
            text("a./".repeat(59) + "a");
            x.word(0);
            due(60, x.status(0));
            due(60, x.status(1));
            due(60, x.status(2));
            x.end(2);
            due(60, x.status(2));
            words(23);
            due(24, x.status(3));
        });
        edge("WORDS in the text (4; those that PLACES have, how many different ones),", () -> {
            due(0, x.status(4));
            for (int word = 0; word < 16; word++) {
                x.write(word);
                due(word + 1, x.status(4));
            }
            x.write(0);
            due(16, x.status(4));
            x.change(15, 3);
            due(15, x.status(4));
            // those that places have, and not those for which they stand
            x.stand(3, 15, 1);
            due(15, x.status(4));
        });
        edge("how many twos of WORDS STAND (5),", () -> {
            due(0, x.status(5));
            int twos = 0;
            for (int word = 0; word < 16; word++) {
                for (int other = 0; other < 16; other++) {
                    twos += x.stand(word, other, 1) == 0 ? 1 : 0;
                }
            }
            due(240, twos);
            due(240, x.status(5));
            x.stand(0, 15, 0);
            due(239, x.status(5));
        });
        edge("THE TAPE's size (6), SEED (7), SHELVES that hold something (8);", () -> {
            due(0, x.status(6));
            due(1, x.status(7));
            due(0, x.status(8));
            feed("\0".repeat(250));
            due(250, x.status(6));
            x.seed(MIN);
            due(MIN, x.status(7));
            x.word(0);
            for (int s = 0; s < 8; s++) {
                due(1, s % 2 == 0 ? x.row(s, 0, 0) : x.show(s, 0));
                due(s + 1, x.status(8));
            }
            x.drop();
            due(4, x.status(8));
        });
        edge("12 to 16: REFUSALS -2 to -6.", () -> {
            places(60, 0);
            x.word(0);
            x.show(0, 0);
            for (int i = 1; i <= 5; i++) {
                due(BAD, x.write(-1));
            }
            for (int i = 1; i <= 4; i++) {
                due(OTHER, x.set(0, 0, 0));
            }
            for (int i = 1; i <= 3; i++) {
                due(NOTHING, x.set(1, 0, 0));
            }
            due(STUCK, x.back());
            due(STUCK, x.back());
            due(FULL, x.write(0));
            for (int what = 12; what <= 16; what++) {
                due(17 - what, x.status(what));
            }
            // a fault is BAD, too
            x.ask();
            x.text();
            due(7, x.status(12));
            // more of one number than a byte holds
            for (int i = 1; i <= 300; i++) {
                x.write(16);
            }
            due(307, x.status(12));
        });
        edge("NONE another what.", () -> {
            for (int what : new int[] {MIN, -1, 9, 10, 11, 17, 18, MAX}) {
                due(NONE, x.status(what));
            }
            due(0, x.status(12));
        });
    }
}
