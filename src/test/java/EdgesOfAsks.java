/** Boundary cases of promises 16 to 24: asks, read from the tape and made by calls. */
final class EdgesOfAsks extends Edges {
    private EdgesOfAsks() { }

    static void all() {
        ask();
        word();
        phrase();
        phraseRefusals();
        pair();
        region();
        brief();
        some();
        drop();
        askOf();
        askOfTrees();
    }

    private static void ask() {
        in("Promise 16");
        edge("THE TAPE is an ASK: its number (the last one's);", () -> {
            due(0, ask("a"));
            due(3, ask("a|b"));
            due(22, ask("{1a,b,c}" + "^1".repeat(15)));
            due(23, ask("T"));
            due(24, x.status(3));
            again();
            due(23, ask("a" + "|a".repeat(11) + "^60"));
            dueAsk(22, 10, 21, NONE, NONE, 60);
            duePair(23, 2, 20, 22);
        });
        edge("-20 less the FAULT (that is refused, too: BAD);", () -> {
            refusedAs(BAD, -20, Edges::calm, () -> x.ask());
            faultOfAsk(Edges::calm, "q", 0);
            faultOfAsk(Edges::calm, "a q", 2);
            faultOfAsk(Edges::calm, "a|b|", 4);
            // nothing of it comes, though some were whole
            faultOfAsk(Edges::calm, "(a&b)<{1c,d,e}q", 14);
            faultOfAsk(Edges::fresh, " ".repeat(249) + "|", 249);
            faultOfAsk(Edges::fresh, " ".repeat(250), 250);
            due(-270, ask("(".repeat(250)));
            due(1, x.status(12));
            // a fault comes ahead of asks for which there is no room
            faultOfAsk(() -> words(24), "a|", 2);
            faultOfAsk(() -> words(24), "aq", 1);
            faultOfAsk(Edges::fresh, "a" + "|a".repeat(30) + "|", 62);
        });
        edge("FULL: no FAULT, but no room for all new ASKS (nothing of it comes).", () -> {
            refused(FULL, () -> words(24), () -> ask("a"), () -> ask("'ab'"), () -> ask("S"));
            refused(FULL, () -> words(23), () -> ask("a^1"), () -> ask("a|b"));
            refused(FULL, () -> words(22), () -> ask("a|b"), () -> ask("a@b"), () -> ask("{1a,b,c}"));
            refused(FULL, Edges::fresh, () -> ask("a" + "|a".repeat(12)), () -> ask("a" + "|a".repeat(124)),
                () -> ask("a" + "^1".repeat(24)), () -> ask("'pppp'" + "^60".repeat(81)));
            words(21);
            due(23, ask("a|b"));
            again();
            words(23);
            due(FULL, ask("a|b"));
            due(23, ask("p"));
            dueLeaf(23, 0, 15);
            due(0, x.status(12));
            // what was read with no room leaves no list behind
            again();
            text("ab");
            words(23);
            due(FULL, ask("b|a"));
            due(23, ask("a"));
            dueList("0", 23);
        });
        edge("THE TAPE is empty then, in any case.", () -> {
            ask("a");
            due(0, x.status(6));
            ask("q");
            due(0, x.status(6));
            ask("a" + "^1".repeat(24));
            due(0, x.status(6));
            x.ask();
            due(0, x.wipe());
            due(1, x.feed('c'));
            due(1, x.ask());
            dueLeaf(1, 0, 2);
            // a tape on which brackets were open, or a number missing, is none of the next one's
            for (String open : new String[] {"(", "((a", "a|", "a|b&c<d@", "'ab", "{1a,", "{1a,b,c", "a^", "{"}) {
                due(-20 - open.length(), ask(open));
                due(-21, ask("a)"));
                due(-21, ask("a}"));
                due(-21, ask("a,"));
                due(-22, ask("a|"));
                int last = x.status(3);
                due(last, ask("b"));
                dueLeaf(last, 0, 1);
            }
        });
    }

    private static void word() {
        in("Promise 17");
        edge("A WORD as a new ASK: its number.", () -> {
            due(0, x.word(0));
            due(1, x.word(15));
            dueLeaf(0, 0, 0);
            dueLeaf(1, 0, 15);
            for (int ask = 2; ask < 24; ask++) {
                due(ask, x.word(ask % 16));
            }
            dueLeaf(23, 0, 7);
        });
        edge("BAD;", () -> {
            beyond(Edges::busy, 0, 15, word -> () -> x.word(word));
            beyond(Edges::full, 0, 15, word -> () -> x.word(word));
        });
        edge("FULL.", () -> {
            words(23);
            due(23, x.word(0));
            due(FULL, x.word(0));
            refused(FULL, Edges::full, () -> x.word(0), () -> x.word(15));
        });
    }

    private static void phrase() {
        in("Promise 18");
        edge("A PHRASE by the first n elements (2 to 4) of the ROW in SHELF s as a new ASK: its number.", () -> {
            text("app.aap");
            for (int s : new int[] {0, 7}) {
                for (int sort = 0; sort <= 3; sort++) {
                    row(s, sort, 0, 15, 15, 0, 16, -1);
                    for (int n = 2; n <= 4; n++) {
                        int ask = x.status(3);
                        due(ask, x.phrase(s, n));
                        dueLeaf(ask, 1, 0);
                        due(32769, x.askOf(ask, 7));
                        dueList(n == 2 ? "1 405" : n == 3 ? "2" : "3", ask);
                        x.drop();
                    }
                }
            }
            // 15 first; and of booleans the words 0 and 1
            row(0, 0, 15, 0, 0, 15);
            due(0, x.phrase(0, 4));
            dueLeaf(0, 1, 15);
            dueList("205", 0);
            row(1, 4, 7, 0);
            due(1, x.phrase(1, 2));
            dueLeaf(1, 1, 1);
            due(3, x.askOf(1, 7));
            // the row may change, and the phrase stays
            x.set(0, 0, 3);
            x.row(1, 0, 0);
            dueList("205", 0);
            dueLeaf(1, 1, 1);
        });
    }

    private static void phraseRefusals() {
        edge("BAD SHELF, n;", () -> {
            beyond(Edges::busy, 0, 7, s -> () -> x.phrase(s, 2));
            for (int s : new int[] {0, 1, 3, 5, 6}) {
                beyond(Edges::busy, 2, 4, n -> () -> x.phrase(s, n));
            }
            beyond(Edges::full, 2, 4, n -> () -> x.phrase(0, n));
        });
        edge("OTHER;", () -> refused(OTHER, Edges::busy, () -> x.phrase(5, 2), () -> x.phrase(5, 4)));
        edge("NOTHING;", () -> refused(NOTHING, Edges::busy, () -> x.phrase(6, 2), () -> x.phrase(7, 4)));
        edge("BAD: fewer elements;", () -> {
            // ahead of an element that is no word, and of no room
            refused(BAD, Edges::busy, () -> x.phrase(1, 3), () -> x.phrase(1, 4), () -> x.phrase(2, 4), () -> x.phrase(3, 2));
            refused(BAD, () -> { words(24); row(0, 0, 16); }, () -> x.phrase(0, 2));
            row(0, 0, 1, 2, 3);
            due(0, x.phrase(0, 3));
            due(BAD, x.phrase(0, 4));
        });
        edge("STUCK: an element that is no WORD;", () -> {
            for (long none : new long[] {-1, 16, MIN, MAX, 1L << 32, -(1L << 32), Long.MIN_VALUE, Long.MAX_VALUE}) {
                refused(STUCK, () -> { busy(); row(7, 3, none, 0); }, () -> x.phrase(7, 2));
                refused(STUCK, () -> { busy(); row(7, 3, 0, 15, 0, none); }, () -> x.phrase(7, 4));
            }
            // behind the first n it may be one
            row(7, 3, 0, 15, 16);
            due(0, x.phrase(7, 2));
            due(STUCK, x.phrase(7, 3));
            // ahead of no room
            refused(STUCK, () -> { words(24); row(0, 0, 0, 16); }, () -> x.phrase(0, 2));
        });
        edge("FULL.", () -> {
            refused(FULL, Edges::full, () -> x.phrase(0, 2), () -> x.phrase(7, 4));
            words(23);
            row(0, 0, 1, 2);
            due(23, x.phrase(0, 2));
            due(FULL, x.phrase(0, 2));
        });
    }

    private static void pair() {
        in("Promise 19");
        edge("A pair of a KIND (2 to 8) as a new ASK: its number.", () -> {
            words(2);
            for (int kind = 2; kind <= 8; kind++) {
                due(kind, x.pair(kind, 0, 1));
                duePair(kind, kind, 0, 1);
            }
            due(9, x.pair(2, 8, 8));
            duePair(9, 2, 8, 8);
            words(13);
            due(23, x.pair(8, 22, 0));
            duePair(23, 8, 22, 0);
            // over the asks of the greatest numbers, whose lists aren't looked at first
            again();
            text("nop");
            words(16);
            words(5);
            due(21, x.brief(15, 1));
            due(22, x.pair(4, 14, 21));
            due(23, x.some(2, 22, 13, 20));
            dueList("2", 23);
            dueList("102", 22);
            x.drop();
            due(23, x.pair(2, 21, 22));
            dueList("202", 23);
        });
        edge("BAD;", () -> {
            beyond(Edges::busy, 2, 8, kind -> () -> x.pair(kind, 0, 0));
            beyond(Edges::busy, 0, 7, one -> () -> x.pair(2, one, 0));
            beyond(Edges::busy, 0, 7, other -> () -> x.pair(8, 0, other));
            beyond(Edges::fresh, 0, -1, ask -> () -> x.pair(2, ask, ask));
            beyond(Edges::full, 2, 8, kind -> () -> x.pair(kind, 0, 0));
            beyond(Edges::full, 0, 23, ask -> () -> x.pair(2, ask, 0));
            // one that was dropped is none
            refused(BAD, () -> { words(3); x.drop(); }, () -> x.pair(2, 2, 0), () -> x.pair(2, 0, 2));
        });
        edge("FULL.", () -> {
            refused(FULL, Edges::full, () -> x.pair(2, 0, 0), () -> x.pair(8, 23, 23));
            words(23);
            due(23, x.pair(3, 22, 22));
            due(FULL, x.pair(3, 22, 22));
        });
    }

    private static void region() {
        in("Promise 20");
        edge("A REGION as a new ASK: its number.", () -> {
            for (int region = 0; region <= 2; region++) {
                due(region, x.region(region));
                dueLeaf(region, 9, region);
                due(0, x.askOf(region, 7));
            }
            words(20);
            due(23, x.region(2));
            dueLeaf(23, 9, 2);
        });
        edge("BAD;", () -> {
            beyond(Edges::busy, 0, 2, region -> () -> x.region(region));
            beyond(Edges::full, 0, 2, region -> () -> x.region(region));
        });
        edge("FULL.", () -> {
            refused(FULL, Edges::full, () -> x.region(0), () -> x.region(2));
            words(23);
            due(23, x.region(0));
            due(FULL, x.region(0));
        });
    }

    private static void brief() {
        in("Promise 21");
        edge("A SHORT as a new ASK: its number.", () -> {
            words(1);
            due(1, x.brief(0, 1));
            due(2, x.brief(1, 60));
            dueAsk(1, 10, 0, NONE, NONE, 1);
            dueAsk(2, 10, 1, NONE, NONE, 60);
            words(20);
            due(23, x.brief(22, 60));
            dueAsk(23, 10, 22, NONE, NONE, 60);
        });
        edge("BAD;", () -> {
            beyond(Edges::busy, 1, 60, n -> () -> x.brief(0, n));
            beyond(Edges::busy, 0, 7, ask -> () -> x.brief(ask, 1));
            beyond(Edges::fresh, 0, -1, ask -> () -> x.brief(ask, 1));
            beyond(Edges::full, 1, 60, n -> () -> x.brief(0, n));
            beyond(Edges::full, 0, 23, ask -> () -> x.brief(ask, 1));
        });
        edge("FULL.", () -> {
            refused(FULL, Edges::full, () -> x.brief(0, 1), () -> x.brief(23, 60));
            words(23);
            due(23, x.brief(0, 1));
            due(FULL, x.brief(0, 1));
        });
    }

    private static void some() {
        in("Promise 22");
        edge("A SOME as a new ASK: its number.", () -> {
            words(3);
            for (int k = 1; k <= 3; k++) {
                due(2 + k, x.some(k, 0, 1, 2));
                dueAsk(2 + k, 11, 0, 1, 2, k);
            }
            due(6, x.some(1, 5, 5, 5));
            words(16);
            due(23, x.some(3, 22, 0, 21));
            dueAsk(23, 11, 22, 0, 21, 3);
        });
        edge("BAD;", () -> {
            beyond(Edges::busy, 1, 3, k -> () -> x.some(k, 0, 0, 0));
            beyond(Edges::busy, 0, 7, one -> () -> x.some(1, one, 0, 0));
            beyond(Edges::busy, 0, 7, other -> () -> x.some(1, 0, other, 0));
            beyond(Edges::busy, 0, 7, third -> () -> x.some(1, 0, 0, third));
            beyond(Edges::fresh, 0, -1, ask -> () -> x.some(3, ask, ask, ask));
            beyond(Edges::full, 1, 3, k -> () -> x.some(k, 0, 0, 0));
            beyond(Edges::full, 0, 23, ask -> () -> x.some(3, 0, 0, ask));
        });
        edge("FULL.", () -> {
            refused(FULL, Edges::full, () -> x.some(1, 0, 0, 0), () -> x.some(3, 23, 23, 23));
            words(23);
            due(23, x.some(2, 0, 0, 0));
            due(FULL, x.some(2, 0, 0, 0));
        });
    }

    private static void drop() {
        in("Promise 23");
        edge("The last ASK is no more (a SHELF that held it holds NOTHING): how many there are.", () -> {
            words(24);
            x.show(0, 23);
            x.show(7, 23);
            x.show(3, 22);
            x.row(4, 2, 3);
            due(23, x.drop());
            due(NONE, x.holds(0));
            due(NONE, x.holds(7));
            due(32, x.holds(3));
            due(2, x.holds(4));
            due(23, x.status(3));
            due(BAD, x.many(23));
            due(23, x.region(2));
            // a new one of its number is not in the shelf
            due(NONE, x.holds(0));
            for (int left = 23; left >= 0; left--) {
                due(left, x.drop());
            }
            due(NONE, x.holds(3));
            due(1, x.status(8));
            due(STUCK, x.drop());
            due(0, x.word(5));
        });
        edge("The last ASK is no more", () -> {
            // nor its list, whatever takes its number
            text("ab");
            ask("a|b");
            dueList("0 101", 2);
            x.drop();
            due(2, x.pair(3, 0, 1));
            dueList("1", 2);
            x.drop();
            x.drop();
            due(1, x.word(9));
            dueList("", 1);
            dueList("0", 0);
            // nor how many and how deep it was, what words stood in it, and what it was over
            ask("{3a,'cde',(a&b)^5}");
            for (int left = x.status(3) - 1; left >= 0; left--) {
                due(left, x.drop());
            }
            for (int ask = 0; ask < 12; ask++) {
                due(ask, ask % 2 == 0 ? ask("b") : x.region(2));
                int[] want = {ask % 2 == 0 ? 0 : 9, NONE, NONE, NONE, ask % 2 == 0 ? 1 : 2, 1, 0, ask % 2 == 0 ? 2 : 0};
                for (int what = 0; what <= 7; what++) {
                    due(want[what], x.askOf(ask, what));
                }
                dueList(ask % 2 == 0 ? "101" : "1", ask);
            }
        });
        edge("STUCK: there are none.", () -> {
            refused(STUCK, Edges::fresh, () -> x.drop());
            refused(STUCK, () -> { places(60, 1); words(1); x.drop(); }, () -> x.drop());
            refused(STUCK, () -> { x.image(); words(3); x.back(); }, () -> x.drop());
        });
    }

    private static void askOf() {
        in("Promise 24");
        edge("Of an ASK: KIND (0), x (1), y (2), z (3) (NONE: it has no such),", () -> {
            due(10, ask("{2 'ab', S^60, (a|b)}&p@p"));
            int n = NONE;
            int[][] want = {
                {1, n, n, n}, {9, n, n, n}, {10, 1, n, n}, {0, n, n, n}, {0, n, n, n}, {2, 3, 4, n}, {11, 0, 2, 5},
                {0, n, n, n}, {0, n, n, n}, {5, 7, 8, n}, {3, 6, 9, n}
            };
            for (int ask = 0; ask < want.length; ask++) {
                for (int what = 0; what <= 3; what++) {
                    due(want[ask][what], x.askOf(ask, what));
                }
            }
        });
        edge("WORD, first WORD, REGION, n, k (4; NONE: a pair),", () -> {
            text("a");
            words(16);
            due(0, x.askOf(0, 4));
            due(15, x.askOf(15, 4));
            row(0, 0, 15, 0);
            due(15, x.askOf(x.phrase(0, 2), 4));
            due(0, x.askOf(x.region(0), 4));
            due(2, x.askOf(x.region(2), 4));
            due(1, x.askOf(x.brief(0, 1), 4));
            due(60, x.askOf(x.brief(0, 60), 4));
            due(3, x.askOf(x.some(3, 0, 0, 0), 4));
            due(NONE, x.askOf(x.pair(2, 0, 0), 4));
            due(NONE, x.askOf(x.pair(8, 0, 0), 4));
            due(0, x.status(12));
        });
        edge("WORDS (7; bits) that stand anywhere in it.", () -> {
            due(4, ask("S|T|P"));
            for (int ask = 0; ask <= 4; ask++) {
                due(0, x.askOf(ask, 7));
            }
            again();
            due(0, ask("S"));
            due(0, x.askOf(0, 7));
            due(1, ask("a"));
            due(1, x.askOf(1, 7));
            due(2, ask("p"));
            due(32768, x.askOf(2, 7));
            due(3, ask("'pabc'"));
            due(32768 + 7, x.askOf(3, 7));
            due(4, x.brief(3, 1));
            due(32768 + 7, x.askOf(4, 7));
            due(5, x.pair(8, 1, 4));
            due(32768 + 7, x.askOf(5, 7));
            due(6, x.some(1, 0, 1, 2));
            due(32769, x.askOf(6, 7));
            again();
            words(16);
            for (int ask = 16; ask < 24; ask++) {
                x.some(1, ask == 16 ? 0 : ask - 1, 2 * ask - 31, Math.min(15, 2 * ask - 30));
            }
            due(65535, x.askOf(23, 7));
            // what a word stands for isn't in it
            again();
            x.stand(0, 1, 1);
            x.word(0);
            due(1, x.askOf(0, 7));
        });
        edge("BAD.", () -> {
            beyond(Edges::busy, 0, 7, ask -> () -> x.askOf(ask, 0));
            beyond(Edges::busy, 0, 7, what -> () -> x.askOf(0, what));
            beyond(Edges::fresh, 0, -1, ask -> () -> x.askOf(ask, 4));
            beyond(Edges::full, 0, 23, ask -> () -> x.askOf(ask, 7));
        });
        edge("(NONE isn't refused.)", () -> changesNothing(Edges::busy, () -> {
            for (int what = 1; what <= 4; what++) {
                due(what == 4 ? 2 : NONE, x.askOf(0, what));
            }
            due(NONE, x.askOf(5, 3));
            due(NONE, x.askOf(5, 4));
        }));
    }

    private static void askOfTrees() {
        edge("how many ASKS it is of, itself and, of each it is over, as many (5; as a tree, so one that is there twice counts twice; 1 if it is over none; more than 1,000,000 is told as 1,000,000),", () -> {
            words(1);
            row(0, 0, 1, 2);
            due(1, x.askOf(0, 5));
            due(1, x.askOf(x.phrase(0, 2), 5));
            due(1, x.askOf(x.region(1), 5));
            due(2, x.askOf(x.brief(0, 3), 5));
            due(3, x.askOf(x.pair(2, 0, 0), 5));
            due(7, x.askOf(x.some(1, 3, 4, 0), 5));
            // 1,000,000 itself, one less, and more
            again();
            words(1);
            int[] weights = new int[24];
            weights[0] = 1;
            for (int ask = 1; ask < 19; ask++) {
                x.pair(3, ask - 1, ask - 1);
                weights[ask] = 2 * weights[ask - 1] + 1;
                due(weights[ask], x.askOf(ask, 5));
            }
            due(524287, weights[18]);
            x.pair(3, 18, 18);
            due(1000000, x.askOf(19, 5));
            x.brief(19, 1);
            due(1000000, x.askOf(20, 5));
            x.some(1, 20, 20, 20);
            x.some(1, 21, 21, 21);
            x.some(1, 22, 22, 22);
            due(1000000, x.askOf(23, 5));
        });
        edge("more than 1,000,000 is told as 1,000,000", () -> {
            // of w comes 2 * w + 1 by a pair, and 2 * w + 2 by a SOME with a word
            x.word(0);
            int last = x.brief(0, 1);
            int[] weights = {6, 14, 29, 60, 121, 243, 487, 975, 1952, 3905, 7811, 15623, 31248, 62498, 124998, 249998,
                499998, 999998};
            for (int weight : weights) {
                last = weight % 2 == 1 ? x.pair(2, last, last) : x.some(1, last, last, 0);
                due(weight, x.askOf(last, 5));
            }
            due(999999, x.askOf(x.brief(last, 1), 5));
            due(1000000, x.askOf(x.brief(last + 1, 1), 5));
            due(1000000, x.askOf(x.brief(last + 2, 1), 5));
        });
        edge("how deep (6; 0 if it is over none, else 1 more than the deepest of those),", () -> {
            ask("a");
            ask("S");
            ask("'ab'");
            for (int ask = 0; ask < 3; ask++) {
                due(0, x.askOf(ask, 6));
            }
            for (int ask = 3; ask < 20; ask++) {
                // the deepest one first, in the middle, last
                int last = ask - 1;
                x.some(2, ask % 3 == 0 ? last : 0, ask % 3 == 1 ? last : 1, ask % 3 == 2 ? last : 2);
                due(ask - 2, x.askOf(ask, 6));
            }
            due(1, x.askOf(x.brief(0, 1), 6));
            due(18, x.askOf(x.pair(5, 0, 19), 6));
            due(18, x.askOf(x.pair(5, 19, 0), 6));
            again();
            x.word(0);
            for (int ask = 1; ask < 24; ask++) {
                x.brief(ask - 1, 1);
            }
            due(23, x.askOf(23, 6));
            due(24, x.askOf(23, 5));
        });
    }
}
