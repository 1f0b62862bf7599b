/** Boundary cases of the face, of terms 1 (the text), and of the paragraph on refusals. */
final class EdgesOfTerms1 extends Edges {
    private EdgesOfTerms1() { }

    static void all() {
        face();
        wordsAndPlaces();
        standing();
        tapes();
        refusals();
        refusalsByNumber();
    }

    private static void face() {
        in("What it is");
        edge("An object is used for at most 512 calls after it has been made;", () -> {
            // the last call of all is answered as any other
            for (int size = 1; size <= 250; size++) {
                due(size, x.feed('a'));
            }
            due(FULL, x.text());
            for (int i = 0; i < 259; i++) {
                due(i < 60 ? i : FULL, x.write(i % 16));
            }
            due(0, x.word(11));
            due(511, x.calls);
            due(4, x.many(0));
            due(512, x.calls);
        });
        in("The public face");
        edge("public static final int NONE = -1;", () -> due(-1, LeapingPassages.NONE));
    }

    private static void wordsAndPlaces() {
        in("Terms 1");
        edge("WORDS have numbers, 0 to 15 (letters a to p).", () -> {
            due(0, x.write(0));
            due(1, x.write(15));
            due(0, x.placeOf(0, 0));
            due(15, x.placeOf(1, 0));
            due(2, text("ap"));
            due(0, x.placeOf(2, 0));
            due(15, x.placeOf(3, 0));
            due(2, ask("a|p"));
            dueLeaf(0, 0, 0);
            dueLeaf(1, 0, 15);
            beyond(Edges::busy, 0, 15, word -> () -> x.write(word));
            // ` and q stand next to a and p
            faultOfText(Edges::calm, "`", 0);
            faultOfText(Edges::calm, "q", 0);
            faultOfAsk(Edges::calm, "`", 0);
            faultOfAsk(Edges::calm, "q", 0);
        });
        edge("PLACES have numbers, 0 on, 60 at most (none at first),", () -> {
            due(0, x.status(0));
            refused(BAD, Edges::fresh, () -> x.placeOf(0, 0));
            for (int place = 0; place < 60; place++) {
                due(place, x.write(place % 16));
            }
            due(60, x.status(0));
            due(0, x.placeOf(0, 0));
            due(11, x.placeOf(59, 0));
            refused(BAD, Edges::full, () -> x.placeOf(60, 0), () -> x.placeOf(-1, 0));
            refused(FULL, Edges::full, () -> x.write(0), () -> x.write(15));
        });
        edge("each with a WORD and a MARK (0; 1: a SENTENCE ends behind it; 2: a PART does, and its SENTENCE).", () -> {
            due(4, text("ab.c/d"));
            int[][] want = {{0, 0, 0, 0}, {1, 1, 0, 0}, {2, 2, 1, 0}, {3, 0, 2, 1}};
            for (int place = 0; place < 4; place++) {
                for (int what = 0; what < 4; what++) {
                    due(want[place][what], x.placeOf(place, what));
                }
            }
            beyond(Edges::busy, 1, 2, mark -> () -> x.end(mark));
        });
        edge("The last PLACE ends its SENTENCE and its PART in any case.", () -> {
            x.region(0);
            x.region(1);
            x.write(3);
            for (int mark = 0; mark <= 2; mark++) {
                // no empty one begins behind its mark
                due(mark, x.placeOf(0, 1));
                dueList("0", 0);
                dueList("0", 1);
                due(1, x.status(1));
                due(1, x.status(2));
                due(mark == 2 ? STUCK : mark, x.end(Math.min(2, mark + 1)));
            }
            x.write(3);
            dueList("0 101", 0);
            dueList("0 101", 1);
        });
        edge("SENTENCES and PARTS have numbers, 0 on.", () -> {
            due(0, x.status(1));
            due(0, x.status(2));
            due(60, text("a/".repeat(60)));
            for (int what = 2; what <= 3; what++) {
                due(0, x.placeOf(0, what));
                due(1, x.placeOf(1, what));
                due(59, x.placeOf(59, what));
            }
            due(60, x.status(1));
            due(60, x.status(2));
        });
    }

    private static void standing() {
        edge("A WORD may STAND for others (for none at first): a PLACE HAS the WORD it has, and each one for which that one STANDS", () -> {
            for (int word = 0; word < 16; word++) {
                x.write(word);
                due(1 << word, x.placeOf(word, 4));
            }
            due(0, x.status(5));
            for (int word = 0; word < 16; word++) {
                for (int other = 0; other < 16; other++) {
                    due(word == other ? BAD : 0, x.stand(word, other, 1));
                }
            }
            due(240, x.status(5));
            for (int place = 0; place < 16; place++) {
                due(65535, x.placeOf(place, 4));
            }
            x.word(15);
            due(16, x.many(0));
        });
        edge("(nothing is handed on: what stands for a WORD doesn't stand for what that one stands for).", () -> {
            text("abc");
            ask("a|b|c");
            x.stand(0, 1, 1);
            x.stand(1, 2, 1);
            due(1 + 2, x.placeOf(0, 4));
            due(2 + 4, x.placeOf(1, 4));
            due(4, x.placeOf(2, 4));
            dueList("0", 0);
            dueList("0 101", 1);
            dueList("101 202", 3);
            // nor back to where it came from
            x.stand(2, 0, 1);
            due(4 + 1, x.placeOf(2, 4));
            due(1 + 2, x.placeOf(0, 4));
        });
    }

    private static void tapes() {
        edge("A TEXT is read from THE TAPE (bytes, 250 at most):", () -> {
            feed(" ".repeat(190));
            feed("a".repeat(59));
            due(250, x.feed('p'));
            due(FULL, x.feed('b'));
            due(60, x.text());
            due(15, x.placeOf(59, 0));
            refused(FULL, Edges::full, () -> x.feed(0), () -> x.feed(255));
        });
        edge("a letter a to p is a PLACE more behind the others, with that WORD, MARK 0;", () -> {
            due(16, text("abcdefghijklmnop"));
            for (int place = 0; place < 16; place++) {
                due(place, x.placeOf(place, 0));
                due(0, x.placeOf(place, 1));
            }
            due(1, text("/e"));
            due(4, x.placeOf(16, 0));
            due(0, x.placeOf(16, 1));
            eachByteOfText();
        });
        edge(". the MARK of the last PLACE becomes 1 (it can't stand there, if that isn't 0);", () -> {
            due(1, text("a."));
            due(1, x.placeOf(0, 1));
            faultOfText(Edges::calm, "a..", 2);
            faultOfText(Edges::calm, "a/.", 2);
            faultOfText(Edges::calm, "a./.", 3);
            faultOfText(Edges::calm, "..", 1);
        });
        edge("/ it becomes 2 (it can't stand there, if that is 2);", () -> {
            due(2, text("a/b./"));
            due(2, x.placeOf(0, 1));
            due(2, x.placeOf(1, 1));
            faultOfText(Edges::calm, "a//", 2);
            faultOfText(Edges::calm, "a.//", 3);
            faultOfText(Edges::calm, "//", 1);
        });
        edge("blanks (32) may stand anywhere.", () -> {
            due(2, text("  a  .  /  b  "));
            due(2, x.placeOf(0, 1));
            due(1, x.placeOf(1, 0));
            due(1, text(" ".repeat(249) + "a"));
            again();
            due(1, text("a" + " ".repeat(249)));
            for (int other : new int[] {0, 9, 10, 13, 31, 33, 160}) {
                faultOfText(Edges::calm, "a" + (char) other, 1);
            }
        });
        edge("One byte that isn't a blank at least.", () -> {
            due(1, text("a"));
            due(0, text("."));
            due(0, text(" / "));
            faultOfText(Edges::calm, "", 0);
            faultOfText(Edges::calm, " ", 1);
        });
        edge("It comes behind the PLACES there are (so . may stand first, if there are some).", () -> {
            faultOfText(Edges::fresh, ".", 0);
            faultOfText(Edges::fresh, "/", 0);
            faultOfText(Edges::fresh, " .a", 1);
            due(1, text("a"));
            due(1, text(".b"));
            due(1, x.placeOf(0, 1));
            due(1, x.placeOf(1, 0));
            due(0, text("/"));
            due(2, x.placeOf(1, 1));
            due(1, x.placeOf(0, 1));
            refusedAs(BAD, -20, () -> text("ab/"), () -> text("."));
            refusedAs(BAD, -20, () -> text("ab/"), () -> text("/"));
            refusedAs(BAD, -20, () -> text("ab."), () -> text(".c"));
            due(-20, x.text());
        });
        edge("The FAULT: the place of the first byte that can't stand there; THE TAPE's size, if it has only blanks, or nothing.", () -> {
            faultOfText(Edges::calm, "", 0);
            faultOfText(Edges::calm, "   ", 3);
            faultOfText(Edges::calm, "q", 0);
            faultOfText(Edges::calm, "aqqq..", 1);
            faultOfText(Edges::calm, "  q  ", 2);
            faultOfText(Edges::fresh, " ".repeat(249), 249);
            faultOfText(Edges::fresh, " ".repeat(250), 250);
            faultOfText(Edges::fresh, " ".repeat(249) + "q", 249);
            faultOfText(Edges::fresh, "a".repeat(60) + "q", 60);
        });
    }

    /** Alone on a tape, and behind a place, each of the 256 bytes. */
    private static void eachByteOfText() {
        for (int b = 0; b <= 255; b++) {
            boolean isLetter = b >= 'a' && b <= 'p';
            again();
            x.feed(b);
            due(isLetter ? 1 : b == ' ' ? -21 : -20, x.text());
            x.write(0);
            int size = x.status(0);
            x.feed(b);
            due(isLetter ? 1 : b == '.' || b == '/' ? 0 : b == ' ' ? -21 : -20, x.text());
            due(b == '.' ? 1 : b == '/' ? 2 : 0, x.placeOf(size - 1, 1));
        }
    }

    private static void refusals() {
        in("REFUSALS");
        edge("(the call answers the number; nothing changes but how many there were;", () -> {
            for (int what = 12; what <= 16; what++) {
                due(0, x.status(what));
            }
            places(60, 0);
            for (int i = 1; i <= 3; i++) {
                due(BAD, x.write(16));
                due(STUCK, x.drop());
                due(NOTHING, x.set(0, 0, 1));
                due(FULL, x.write(0));
                due(i, x.status(12));
                due(0, x.status(13));
                due(i, x.status(14));
                due(i, x.status(15));
                due(i, x.status(16));
            }
            x.word(0);
            x.show(0, 0);
            due(OTHER, x.set(0, 0, 1));
            due(1, x.status(13));
        });
        edge("the first that fits as each line has them):", () -> {
            // one call that each number fits, and then without what is ahead
            refused(BAD, () -> { words(24); x.show(0, 0); }, () -> x.phrase(0, 5), () -> x.phrase(8, 2));
            refused(OTHER, () -> { words(24); x.show(0, 0); }, () -> x.phrase(0, 2));
            refused(NOTHING, () -> words(24), () -> x.phrase(0, 2));
            refused(BAD, () -> { words(24); row(0, 0, 16); }, () -> x.phrase(0, 2));
            refused(STUCK, () -> { words(24); row(0, 0, 16, 0); }, () -> x.phrase(0, 2));
            refused(FULL, () -> { words(24); row(0, 0, 15, 0); }, () -> x.phrase(0, 2));
            words(23);
            row(0, 0, 15, 0);
            due(23, x.phrase(0, 2));
        });
    }

    private static void refusalsByNumber() {
        edge("-2 BAD a number that may not be, nothing of that number.", () -> {
            refused(BAD, Edges::busy, () -> x.row(0, 5, 1), () -> x.brief(0, 61), () -> x.many(8), () -> x.change(6, 0));
            refused(BAD, Edges::full, () -> x.brief(0, 61), () -> x.many(24), () -> x.change(60, 0), () -> x.set(0, 40, 0));
        });
        edge("-3 OTHER: a SHELF that holds another thing than is wanted.", () -> {
            // 5 holds an ask, 0 a row
            refused(OTHER, Edges::busy, () -> x.set(5, 0, 1), () -> x.copy(5, 0, 0, 0, 1), () -> x.phrase(5, 2),
                () -> x.kinds(0, 1, 5, 1), () -> x.judge(0, 5, 1), () -> x.leap(0, 5, 1), () -> x.fold(3, 5, 1, 0),
                () -> x.says(0, 0));
        });
        edge("-4 NOTHING: a SHELF that holds NOTHING.", () -> {
            refused(NOTHING, Edges::busy, () -> x.set(6, 0, 1), () -> x.copy(6, 0, 0, 0, 1), () -> x.phrase(6, 2),
                () -> x.kinds(0, 1, 6, 1), () -> x.judge(0, 6, 1), () -> x.leap(0, 6, 1), () -> x.fold(3, 6, 1, 0),
                () -> x.says(6, 0));
        });
        edge("-5 STUCK: it can't be as things stand.", () -> {
            refused(STUCK, Edges::fresh, () -> x.end(1), () -> x.drop(), () -> x.back());
            refused(STUCK, Edges::busy, () -> x.phrase(1, 2), () -> x.fold(3, 0, 5, 0));
        });
        edge("-6 FULL.", () -> {
            refused(FULL, Edges::full, () -> x.write(0), () -> x.feed(0), () -> x.word(0), () -> x.phrase(0, 2),
                () -> x.pair(2, 0, 0), () -> x.region(0), () -> x.brief(0, 1), () -> x.some(1, 0, 0, 0));
            refused(FULL, () -> words(24), () -> ask("a"));
            refused(FULL, () -> places(60, 3), () -> text("a"));
        });
    }
}
