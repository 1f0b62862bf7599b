/** Promises 16 to 24: asks, read from the tape and made by calls. */
public final class AsksTest extends Checks {
    private AsksTest() { }

    private static void badTape(String ask, int fault) {
        refusesAs(BAD, -20 - fault, () -> ask(ask));
        due(0, x.status(6));
    }

    static void promise16Faults() {
        x.word(0);
        badTape("", 0);
        badTape("   ", 3);
        badTape("q", 0);
        badTape("A", 0);
        badTape(" s", 1);
        badTape("\0", 0);
        badTape("\377", 0);
        badTape("ab", 1);
        badTape("a b", 2);
        badTape("aS", 1);
        badTape("a|", 2);
        badTape("a& ", 3);
        badTape("a<(b)<", 6);
        badTape("a||b", 2);
        badTape("|a", 0);
        badTape("&", 0);
        badTape("^3", 0);
        badTape("a@@b", 2);
        badTape("a!&", 2);
        badTape("a#", 2);
        badTape("a-", 2);
        badTape("a-^3", 2);
        badTape("a)", 1);
        badTape("(a", 2);
        badTape("(a ,", 3);
        badTape("()", 1);
        badTape("(a}", 2);
        badTape("((a)", 4);
        badTape("(a))", 3);
        badTape("a,b", 1);
        badTape("a}", 1);
        badTape("a'", 1);
        badTape("(".repeat(250), 250);
        badTape("(".repeat(124) + "a" + ")".repeat(125), 249);
    }

    static void promise16FaultsOfPhrasesAndNumbers() {
        badTape("'", 1);
        badTape("''", 1);
        badTape("'a", 2);
        badTape("'a'", 2);
        badTape("' a '", 4);
        badTape("'abcde'", 5);
        badTape("'ab", 3);
        badTape("'abcd", 5);
        badTape("'aqb'", 2);
        badTape("'a.b'", 2);
        badTape("'aS'", 2);
        badTape("'a3'", 2);
        badTape("a^", 2);
        badTape("a^ ", 3);
        badTape("a^" + " ".repeat(248), 250);
        badTape("a^", 2);
        badTape("'ab" + " ".repeat(247), 250);
        badTape("'ab", 3);
        badTape("a&" + " ".repeat(248), 250);
        badTape("a^b", 2);
        badTape("a^ b", 3);
        badTape("a^0", 2);
        badTape("a^00", 2);
        badTape("a^61", 2);
        badTape("a^ 99", 3);
        badTape("a^001", 2);
        badTape("a^ 100", 3);
        badTape("a^" + "1".repeat(248), 2);
        badTape("a^6 0", 4);
        badTape("a^6b", 3);
        badTape("a^6(", 3);
        badTape("a^-1", 2);
        badTape("a^:", 2);
        badTape("a^/", 2);
        badTape("{", 1);
        badTape("{ ", 2);
        badTape("{a", 1);
        badTape("{}", 1);
        badTape("{0a,b,c}", 1);
        badTape("{00a,b,c}", 1);
        badTape("{4a,b,c}", 1);
        badTape("{ 10a,b,c}", 2);
        badTape("{001a,b,c}", 1);
        badTape("{1 1a,b,c}", 3);
        badTape("{1", 2);
        badTape("{2a}", 3);
        badTape("{2a,b}", 5);
        badTape("{2a,b,c", 7);
        badTape("{2a,b,c,d}", 7);
        badTape("{2a,b,c)", 7);
        badTape("{2a,,c}", 4);
        badTape("{2,a,c}", 2);
        badTape("{2(a,b),c}", 4);
        badTape("{2a,b,(c}", 8);
        badTape("{1".repeat(125), 250);
        due(0, x.status(3));
    }

    static void promise16Ranks() {
        due(6, ask("a | b & c < d"));
        duePair(4, 4, 2, 3);
        duePair(5, 3, 1, 4);
        duePair(6, 2, 0, 5);
        due(0, x.status(6));
        due(13, ask("a<b&c|d"));
        duePair(9, 4, 7, 8);
        duePair(11, 3, 9, 10);
        duePair(13, 2, 11, 12);
    }

    static void promise16FromTheLeft() {
        due(12, ask("a|b|c&d&e<f<g"));
        duePair(2, 2, 0, 1);
        duePair(5, 3, 3, 4);
        duePair(8, 4, 6, 7);
        duePair(10, 4, 8, 9);
        duePair(11, 3, 5, 10);
        duePair(12, 2, 2, 11);
        due(23, ask("a@b^07!c #d- S ^ 60"));
        duePair(15, 5, 13, 14);
        dueAsk(16, 10, 15, NONE, NONE, 7);
        duePair(18, 6, 16, 17);
        duePair(20, 7, 18, 19);
        duePair(22, 8, 20, 21);
        dueAsk(23, 10, 22, NONE, NONE, 60);
    }

    static void promise16Plain() {
        due(8, ask(" { 2 a | p , ' b  c ' @ T, (P) ^1 } "));
        dueLeaf(0, 0, 0);
        dueLeaf(1, 0, 15);
        duePair(2, 2, 0, 1);
        dueLeaf(3, 1, 1);
        due(6, x.askOf(3, 7));
        dueLeaf(4, 9, 2);
        duePair(5, 5, 3, 4);
        dueLeaf(6, 9, 1);
        dueAsk(7, 10, 6, NONE, NONE, 1);
        dueAsk(8, 11, 2, 5, 7, 2);
        due(9, ask("S"));
        dueLeaf(9, 9, 0);
        due(10, ask("((  'dcba'))"));
        dueLeaf(10, 1, 3);
        text("dcbadcb");
        dueList("3", 10);
        due(14, ask("a-(b)^2"));
        dueAsk(14, 10, 13, NONE, NONE, 2);
        duePair(13, 8, 11, 12);
        due(19, ask("a@(b<c)"));
        duePair(18, 4, 16, 17);
        duePair(19, 5, 15, 18);
        due(23, ask("{01p,p,p}"));
        dueAsk(23, 11, 20, 21, 22, 1);
    }

    /** Brackets nest as deep as the tape has room; one more ask than there is room is FULL. */
    static void promise16Bounds() {
        due(0, ask("(".repeat(124) + "a" + ")".repeat(124)));
        due(13, ask("{3{2{1a,b,c},d,e},f,{1P,S,T}}"));
        dueAsk(13, 11, 7, 8, 12, 3);
        due(22, ask("a|b|c|d|e"));
        refuses(FULL, () -> ask("a|b"), () -> ask("S^3"), () -> ask("{1a,b,c}"));
        due(23, ask("S"));
        dueLeaf(23, 9, 0);
        refuses(FULL, () -> ask("a"), () -> ask("a^1"), () -> ask("a" + "|a".repeat(124)));
        due(0, x.status(6));
        badTape("a|b|c|", 6);
        badTape("a^61", 2);
        while (x.status(3) > 0) {
            x.drop();
        }
        refuses(FULL, () -> ask("a" + "&a".repeat(12)));
        due(22, ask("a" + "&a".repeat(11)));
    }

    static void promise17() {
        text("abp");
        for (int ask = 0; ask < 24; ask++) {
            due(ask, x.word(ask == 3 ? 15 : ask % 2));
        }
        dueList("0", 0);
        dueList("101", 1);
        dueList("202", 3);
        dueLeaf(3, 0, 15);
        refuses(FULL, () -> x.word(0));
        badWord(word -> () -> x.word(word));
    }

    static void promise18() {
        // marks don't end a run of places
        text("ab.ab/a.b");
        row(0, 0, 0, 1, 0, 1, 2);
        due(0, x.phrase(0, 2));
        due(1, x.phrase(0, 3));
        due(2, x.phrase(0, 4));
        dueList("1 203 405", 0);
        dueList("2 204", 1);
        dueList("3 205", 2);
        row(1, 4, 1, 1);
        due(3, x.phrase(1, 2));
        dueList("", 3);
        // where each a has b, too, all runs of two are 'bb'
        x.stand(0, 1, 1);
        dueList("1 102 203 304 405", 3);
    }

    static void promise18Refusals() {
        row(0, 3, 0, 1, 16, 3, 2);
        row(1, 3, -1, 1L << 32);
        x.word(0);
        x.show(2, 0);
        badShelf(s -> () -> x.phrase(s, 2));
        for (int s = 0; s <= 3; s++) {
            int shelf = s;
            badUnless(2, 4, n -> () -> x.phrase(shelf, n));
        }
        refuses(OTHER, () -> x.phrase(2, 2));
        refuses(NOTHING, () -> x.phrase(3, 2));
        refuses(BAD, () -> x.phrase(1, 3));
        refuses(STUCK, () -> x.phrase(0, 3), () -> x.phrase(0, 4), () -> x.phrase(1, 2));
        x.set(1, 0, 5);
        refuses(STUCK, () -> x.phrase(1, 2));
        for (int ask = 1; ask < 24; ask++) {
            due(ask, x.phrase(0, 2));
        }
        refuses(FULL, () -> x.phrase(0, 2));
        refuses(STUCK, () -> x.phrase(0, 3));
        refuses(BAD, () -> x.phrase(1, 4));
    }

    static void promise19Merges() {
        // 0 a, 1 b, 2 c, 3 a, 4 b, 5 c
        text("abcabc");
        ask("'ab'");
        ask("c");
        ask("a");
        due(3, x.pair(2, 0, 2));
        dueList("0 303", 3);
        due(4, x.pair(3, 0, 1));
        dueList("2 204 305", 4);
        due(5, x.pair(4, 0, 1));
        dueList("2 305", 5);
        due(6, x.pair(4, 1, 0));
        dueList("204", 6);
        due(7, x.pair(3, 2, 2));
        dueList("0 303", 7);
        due(8, x.pair(4, 2, 2));
        dueList("3", 8);
        due(9, x.pair(2, 4, 8));
        // 0..3 holds 0..2
        dueList("2 204 305", 9);
        due(10, x.pair(3, 1, 9));
        dueList("2 204 305", 10);
        x.word(9);
        due(12, x.pair(2, 11, 2));
        dueList("0 303", 12);
        due(13, x.pair(3, 11, 2));
        due(14, x.pair(4, 2, 11));
        dueList("", 13);
        dueList("", 14);
    }

    static void promise19LastPlace() {
        text("a".repeat(58) + "cb");
        ask("b|c");
        dueList("5858 5959", 2);
        x.pair(3, 0, 1);
        dueList("5859", 3);
        x.pair(4, 1, 0);
        dueList("5859", 4);
        x.pair(4, 0, 1);
        dueList("", 5);
        ask("{3 b, b, c}");
        dueList("5859", 9);
    }

    static void promise19Sieves() {
        // 0 a, 1 b., 2 a, 3 a/, 4 b
        text("ab.aa/b");
        ask("S");
        ask("P");
        ask("a");
        ask("'ba'");
        dueList("1 203 404", 0);
        dueList("3 404", 1);
        due(4, x.pair(5, 0, 1));
        dueList("1 203 404", 4);
        due(5, x.pair(5, 1, 0));
        dueList("404", 5);
        due(6, x.pair(6, 1, 0));
        dueList("3", 6);
        due(7, x.pair(6, 0, 1));
        dueList("", 7);
        due(8, x.pair(7, 0, 2));
        dueList("1 203", 8);
        due(9, x.pair(8, 0, 2));
        dueList("404", 9);
        due(10, x.pair(5, 3, 1));
        dueList("102", 10);
        due(11, x.pair(5, 3, 0));
        dueList("", 11);
        due(12, x.pair(6, 3, 0));
        dueList("102", 12);
        due(13, x.pair(7, 1, 3));
        dueList("3", 13);
        due(14, x.pair(8, 1, 3));
        dueList("404", 14);
        // each span lies in itself
        due(15, x.pair(5, 2, 2));
        dueList("0 202 303", 15);
        due(16, x.pair(8, 2, 2));
        dueList("", 16);
    }

    static void promise19Refusals() {
        refuses(BAD, () -> x.pair(2, 0, 0));
        x.word(0);
        badUnless(2, 8, kind -> () -> x.pair(kind, 0, 0));
        badAsk(ask -> () -> x.pair(3, ask, 0));
        badAsk(ask -> () -> x.pair(3, 0, ask));
        for (int ask = 1; ask < 24; ask++) {
            due(ask, x.pair(2, ask - 1, 0));
        }
        refuses(FULL, () -> x.pair(2, 0, 0));
        badAsk(ask -> () -> x.pair(3, ask, 0));
    }

    static void promise20() {
        for (int region = 0; region <= 2; region++) {
            due(region, x.region(region));
            dueList("", region);
            dueLeaf(region, 9, region);
        }
        text("ab.c/d.e");
        dueList("1 202 303 404", 0);
        dueList("2 304", 1);
        dueList("4", 2);
        x.end(2);
        dueList("2 304", 1);
        x.write(0);
        dueList("1 202 303 404 505", 0);
        dueList("2 304 505", 1);
        dueList("5", 2);
        badUnless(0, 2, region -> () -> x.region(region));
        for (int ask = 3; ask < 24; ask++) {
            x.region(0);
        }
        refuses(FULL, () -> x.region(0));
        badUnless(0, 2, region -> () -> x.region(region));
    }

    static void promise21() {
        text("a.bc.def/g");
        x.region(0);
        due(1, x.brief(0, 1));
        due(2, x.brief(0, 2));
        due(3, x.brief(0, 60));
        dueList("0 606", 1);
        dueList("0 102 606", 2);
        dueList("0 102 305 606", 3);
        dueAsk(2, 10, 0, NONE, NONE, 2);
        badAsk(ask -> () -> x.brief(ask, 1));
        badUnless(1, 60, n -> () -> x.brief(0, n));
        for (int ask = 4; ask < 24; ask++) {
            x.brief(ask - 1, 60);
        }
        dueList("0 102 305 606", 23);
        x.end(2);
        x.write(0);
        dueList("0 606 707", 1);
        dueList("0 102 305 606 707", 23);
        refuses(FULL, () -> x.brief(0, 1));
        badUnless(1, 60, n -> () -> x.brief(0, n));
    }

    static void promise22() {
        // 0 a, 1 b, 2 d, 3 c, 4 b, 5 a
        text("abdcba");
        x.word(0);
        x.word(1);
        x.word(2);
        due(3, x.some(1, 0, 1, 2));
        dueList("0 101 303 404 505", 3);
        due(4, x.some(2, 0, 1, 2));
        dueList("1 103 304 405", 4);
        due(5, x.some(3, 0, 1, 2));
        // 0..3 and 3..5, for 1..5 holds that
        dueList("3 305", 5);
        dueAsk(5, 11, 0, 1, 2, 3);
        // two of a, a, c: a with itself
        due(6, x.some(2, 0, 0, 2));
        dueList("0 505", 6);
        due(7, x.some(3, 2, 2, 2));
        dueList("303", 7);
        x.word(9);
        due(9, x.some(3, 0, 1, 8));
        dueList("", 9);
        due(10, x.some(2, 8, 0, 2));
        dueList("3 305", 10);
        due(11, x.some(2, 8, 8, 2));
        dueList("", 11);
        due(12, x.some(1, 8, 8, 2));
        dueList("303", 12);
        badUnless(1, 3, k -> () -> x.some(k, 0, 0, 0));
        badAsk(ask -> () -> x.some(1, ask, 0, 0));
        badAsk(ask -> () -> x.some(1, 0, ask, 0));
        badAsk(ask -> () -> x.some(1, 0, 0, ask));
        for (int ask = 13; ask < 24; ask++) {
            due(ask, x.some(1, 0, 1, 2));
        }
        refuses(FULL, () -> x.some(1, 0, 1, 2));
        badUnless(1, 3, k -> () -> x.some(k, 0, 0, 0));
    }

    static void promise23() {
        refuses(STUCK, () -> x.drop());
        text("ab");
        x.word(0);
        x.word(1);
        x.show(0, 0);
        x.show(1, 1);
        x.show(2, 1);
        x.row(3, 2, 1);
        dueList("101", 1);
        due(1, x.drop());
        due(10, x.holds(0));
        due(NONE, x.holds(1));
        due(NONE, x.holds(2));
        due(2, x.holds(3));
        due(2, x.status(8));
        refuses(BAD, () -> x.many(1));
        refuses(NOTHING, () -> x.says(1, 0));
        due(1, x.region(2));
        dueList("1", 1);
        due(NONE, x.holds(1));
        due(1, x.drop());
        due(0, x.drop());
        due(NONE, x.holds(0));
        refuses(STUCK, () -> x.drop());
    }

    /** What stood at a number ahead of a drop leaves nothing there. */
    static void promise23Again() {
        text("ab");
        for (int i = 0; i < 300; i++) {
            x.word(1);
            due(3, ask("a|b"));
            duePair(3, 2, 1, 2);
            due(4, ask("'ba'"));
            dueList("0 101", 3);
            while (x.status(3) > 0) {
                x.drop();
            }
            due(0, ask("T"));
            due(1, ask("S"));
            due(2, ask("P"));
            due(3, ask("c"));
            due(1, x.askOf(3, 5));
            due(0, x.askOf(3, 6));
            due(4, x.askOf(3, 7));
            dueLeaf(3, 0, 2);
            dueList("", 3);
            badTape("a|b&c<(d|e&f<{1(a|", 18);
            for (int left = 3; left >= 0; left--) {
                due(left, x.drop());
            }
        }
    }

    static void promise24() {
        due(8, ask("{3 (a | 'bcp'), S^9, (T)} - d"));
        dueLeaf(0, 0, 0);
        dueLeaf(1, 1, 1);
        duePair(2, 2, 0, 1);
        dueLeaf(3, 9, 0);
        dueAsk(4, 10, 3, NONE, NONE, 9);
        dueLeaf(5, 9, 2);
        dueAsk(6, 11, 2, 4, 5, 3);
        dueLeaf(7, 0, 3);
        duePair(8, 8, 6, 7);
        int[] weights = {1, 1, 3, 1, 2, 1, 7, 1, 9};
        int[] depths = {0, 0, 1, 0, 1, 0, 2, 0, 3};
        int p = 1 << 15;
        int[] words = {1, p + 6, p + 7, 0, 0, 0, p + 7, 8, p + 15};
        for (int ask = 0; ask <= 8; ask++) {
            due(weights[ask], x.askOf(ask, 5));
            due(depths[ask], x.askOf(ask, 6));
            due(words[ask], x.askOf(ask, 7));
        }
        badAsk(ask -> () -> x.askOf(ask, 0));
        badUnless(0, 7, what -> () -> x.askOf(0, what));
        none(() -> x.askOf(0, 1), () -> x.askOf(2, 3), () -> x.askOf(2, 4), () -> x.askOf(4, 2));
    }

    /** What is there twice counts twice, up to 1,000,000. */
    static void promise24Weights() {
        x.word(4);
        int weight = 1;
        for (int ask = 1; ask < 24; ask++) {
            x.pair(3, ask - 1, ask - 1);
            weight = Math.min(1000000, 1 + 2 * weight);
            due(weight, x.askOf(ask, 5));
            due(ask, x.askOf(ask, 6));
            due(16, x.askOf(ask, 7));
        }
        while (x.status(3) > 1) {
            x.drop();
        }
        long heavy = 1;
        for (int ask = 1; ask < 24; ask++) {
            x.some(1, ask - 1, ask - 1, ask - 1);
            heavy = 1 + 3 * heavy;
            due(Math.min(1000000, heavy), x.askOf(ask, 5));
        }
    }

    public static void main(String[] args) {
        run("16, faults", AsksTest::promise16Faults);
        run("16, faults of phrases and numbers", AsksTest::promise16FaultsOfPhrasesAndNumbers);
        run("16, ranks", AsksTest::promise16Ranks);
        run("16, from the left", AsksTest::promise16FromTheLeft);
        run("16, plain", AsksTest::promise16Plain);
        run("16, bounds", AsksTest::promise16Bounds);
        run("17", AsksTest::promise17);
        run("18", AsksTest::promise18);
        run("18, refusals", AsksTest::promise18Refusals);
        run("19, merges", AsksTest::promise19Merges);
        run("19, last place", AsksTest::promise19LastPlace);
        run("19, sieves", AsksTest::promise19Sieves);
        run("19, refusals", AsksTest::promise19Refusals);
        run("20", AsksTest::promise20);
        run("21", AsksTest::promise21);
        run("22", AsksTest::promise22);
        run("23", AsksTest::promise23);
        run("23, again", AsksTest::promise23Again);
        run("24", AsksTest::promise24);
        run("24, weights", AsksTest::promise24Weights);
        close();
    }
}
