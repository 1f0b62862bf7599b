/** Boundary cases of terms 2: asks and their lists, and how an ask is read. */
final class EdgesOfTerms2 extends Edges {
    private EdgesOfTerms2() { }

    static void all() {
        in("Terms 2");
        spans();
        asks();
        leaves();
        merges();
        tests();
        shortAndSome();
        grammar();
        plains();
        numbers();
        order();
        faults();
    }

    private static void spans() {
        edge("A SPAN has a FIRST and a LAST PLACE (FIRST not behind LAST).", () -> {
            places(60, 0);
            x.word(0);
            x.region(2);
            due(0, x.span(0, 0));
            due(5959, x.span(0, 59));
            due(59, x.span(1, 0));
        });
        edge("It LIES IN another one, if its FIRST isn't ahead of that one's and its LAST isn't behind that one's (a SPAN LIES IN itself).", () -> {
            text("abcab");
            ask("'abc'");
            ask("'ab'");
            ask("'bc'");
            ask("b");
            lies("1", 1, 0);
            lies("102", 2, 0);
            lies("101", 3, 0);
            lies("2", 0, 0);
            lies("", 0, 1);
            lies("", 0, 2);
            lies("", 2, 1);
            lies("", 1, 2);
            lies("101 404", 3, 1);
        });
        edge("THE LEAST of some SPANS (the same one twice is one): those in which no other one of them lies.", () -> {
            text("abcab");
            due(2, ask("'ab'|'ab'"));
            dueList("1 304", 2);
            ask("'abc'|'ab'");
            dueList("1 304", 5);
            ask("'abc'|'bc'");
            dueList("102", 8);
            ask("'ab'|'bc'");
            dueList("1 102 304", 11);
            ask("'abc'|b");
            dueList("101 404", 14);
            // at the first place of all, and at the last one
            again();
            x.write(1);
            places(58, 0);
            x.write(2);
            ask("'ac'|c");
            ask("'ba'|b");
            dueList("5959", 2);
            dueList("0", 5);
        });
    }

    private static void lies(String want, int one, int other) {
        int ask = x.pair(5, one, other);
        dueList(want, ask);
        x.drop();
    }

    private static void asks() {
        edge("ASKS have numbers, 0 on, 24 at most, each of a KIND, over other ASKS of lesser numbers (two may be the same).", () -> {
            due(0, x.status(3));
            refused(BAD, Edges::fresh, () -> x.askOf(0, 0), () -> x.pair(2, 0, 0), () -> x.brief(0, 1));
            for (int ask = 0; ask < 22; ask++) {
                due(ask, x.word(ask % 16));
            }
            // over one that it is itself, or that isn't there yet
            due(BAD, x.pair(2, 22, 0));
            due(BAD, x.brief(22, 1));
            due(BAD, x.some(1, 0, 0, 22));
            due(22, x.pair(2, 21, 21));
            due(23, x.some(3, 22, 22, 22));
            due(24, x.status(3));
            refused(BAD, () -> words(22), () -> x.pair(2, 22, 0), () -> x.pair(2, 0, 22));
            refused(FULL, Edges::full, () -> x.word(0), () -> x.phrase(0, 4), () -> x.pair(8, 23, 23), () -> x.region(2),
                () -> x.brief(23, 60), () -> x.some(3, 23, 23, 23));
            refused(FULL, () -> words(24), () -> ask("S"));
        });
        edge("Its LIST, by FIRST (and so by LAST, too):", () -> {
            text("babab");
            due(2, ask("b|a"));
            dueList("0 101 202 303 404", 2);
            due(3, x.pair(3, 1, 0));
            dueList("1 102 203 304", 3);
            due(4, x.pair(4, 0, 0));
            dueList("2 204", 4);
            due(5, x.some(2, 4, 1, 1));
            dueList("101 303", 5);
            due(6, x.some(1, 3, 4, 3));
            dueList("1 102 203 304", 6);
        });
    }

    private static void leaves() {
        edge("0 WORD w: each PLACE alone that HAS w.", () -> {
            x.word(0);
            dueList("", 0);
            places(58, 0);
            x.write(1);
            x.write(0);
            due(59, x.many(0));
            due(0, x.span(0, 0));
            due(5757, x.span(0, 57));
            due(5959, x.span(0, 58));
            x.stand(1, 0, 1);
            due(60, x.many(0));
            due(5858, x.span(0, 58));
        });
        edge("1 PHRASE, 2 to 4 WORDS: each run of PLACES, one behind the other, of which the first one HAS the first WORD, the next one the next, .. (whatever MARKS they have).", () -> {
            ask("'aa'|'aaaa'");
            dueList("", 0);
            x.write(0);
            dueList("", 0);
            text("./a./a");
            dueList("1 102", 0);
            dueList("", 1);
            x.write(0);
            dueList("3", 1);
            places(56, 0);
            due(59, x.many(0));
            due(5859, x.span(0, 58));
            due(57, x.many(1));
            due(5659, x.span(1, 56));
            x.write(0);
            // the last place and the first one are no run
            x.change(59, 1);
            ask("'ba'");
            dueList("", 3);
            refused(BAD, () -> row(0, 0, 1, 1, 1, 1, 1), () -> x.phrase(0, 1), () -> x.phrase(0, 5));
            faultOfAsk(Edges::calm, "'a'", 2);
            faultOfAsk(Edges::calm, "'aaaaa'", 5);
        });
        edge("9 REGION: 0 all SENTENCES, 1 all PARTS, 2 the whole text (no SPAN without PLACES).", () -> {
            for (int region = 0; region <= 2; region++) {
                x.region(region);
                dueList("", region);
            }
            x.write(0);
            for (int region = 0; region <= 2; region++) {
                dueList("0", region);
            }
            text(".b/c");
            dueList("0 101 202", 0);
            dueList("1 202", 1);
            dueList("2", 2);
            text("/a".repeat(57));
            due(59, x.many(1));
            due(60, x.many(0));
            due(5959, x.span(0, 59));
            dueList("59", 2);
            beyond(Edges::busy, 0, 2, region -> () -> x.region(region));
        });
    }

    private static void merges() {
        edge("2 EITHER x y: THE LEAST of all SPANS of x and of y.", () -> {
            text("abc");
            ask("'ab'|p|o");
            pairs(2, "1", 0, 1);
            pairs(2, "", 1, 3);
            pairs(2, "1", 0, 0);
            x.word(0);
            pairs(2, "0", 0, 5);
            x.word(2);
            pairs(2, "1 202", 0, 6);
        });
        edge("3 BOTH x y: for each SPAN of x and each one of y that from the lesser FIRST to the greater LAST; of all these THE LEAST.", () -> {
            text("abc");
            ask("'ab'|p|o");
            pairs(3, "", 0, 1);
            pairs(3, "", 1, 3);
            pairs(3, "1", 0, 0);
            x.word(1);
            // one in the other, one at its end, one behind it
            pairs(3, "1", 0, 5);
            x.word(2);
            pairs(3, "2", 0, 6);
            pairs(3, "102", 5, 6);
            again();
            x.write(0);
            places(58, 2);
            x.write(1);
            ask("a&b");
            dueList("59", 2);
        });
        edge("4 THEN x y: for each SPAN of x and each one of y whose FIRST is behind the LAST of that of x, that from the FIRST of the one to the LAST of the other; of all these THE LEAST.", () -> {
            text("abb");
            ask("'ab'|'bb'|b|p|a");
            // 1..2 has its first where 0..1 has its last
            ordered("", 0, 1);
            ordered("2", 0, 3);
            ordered("", 3, 0);
            ordered("102", 3, 3);
            ordered("", 7, 7);
            ordered("1", 7, 3);
            ordered("2", 7, 1);
            ordered("", 0, 0);
            ordered("", 7, 5);
            ordered("", 5, 7);
            ordered("", 5, 3);
            ordered("", 5, 5);
            again();
            x.write(0);
            places(58, 2);
            x.write(1);
            ask("a<b");
            dueList("59", 2);
            x.pair(4, 1, 0);
            dueList("", 3);
            again();
            text("aaabcb");
            ask("a<b|b<a|b<c|c<b");
            dueList("203", 2);
            dueList("", 5);
            dueList("304", 9);
            dueList("405", 13);
            again();
            places(60, 0);
            ask("a<a");
            due(59, x.many(2));
            due(1, x.span(2, 0));
            due(5859, x.span(2, 58));
        });
    }

    /** A pair whose list is the same the other way about. */
    private static void pairs(int kind, String want, int one, int other) {
        dueList(want, x.pair(kind, one, other));
        dueList(want, x.pair(kind, other, one));
        x.drop();
        x.drop();
    }

    private static void ordered(String want, int one, int other) {
        dueList(want, x.pair(4, one, other));
        x.drop();
    }

    private static void tests() {
        edge("5 IN x y: SPANS of x that lie in one of y.", () -> tests(5, "0 202", "", "0 202", ""));
        edge("6 OUT x y: SPANS of x that lie in none of y.", () -> tests(6, "303", "0 202 303", "", ""));
        edge("7 HAS x y: SPANS of x in which one of y lies.", () -> tests(7, "2", "", "2", ""));
        edge("8 LACKS x y: SPANS of x in which none of y lies.", () -> tests(8, "305", "2 305", "", ""));
    }

    /**
     * Of sentences 0..2 and 3..5, and a's at 0, 2 and 3: the a's that are in or out of 0..2,
     * the sentences that have or lack 'ca'; the same with no spans to test by; what is tested by
     * itself; and no spans to be tested.
     */
    private static void tests(int kind, String some, String byNone, String byItself, String none) {
        text("aca.abb");
        x.change(4, 2);
        ask("S#'ca'");
        ask("a");
        ask("p");
        int one = kind <= 6 ? 3 : 0;
        int other = kind <= 6 ? 2 : 1;
        dueList("2", 2);
        dueList("0 202 303", 3);
        dueList(some, x.pair(kind, one, other));
        dueList(byNone, x.pair(kind, one, 4));
        int itself = kind <= 6 ? 5 : 2;
        int by = kind == 5 || kind == 7 ? itself : one;
        dueList(byItself, x.pair(kind, by, by));
        dueList(none, x.pair(kind, 4, one));
        dueList(none, x.pair(kind, 4, 4));
    }

    private static void shortAndSome() {
        edge("10 SHORT x n (1 to 60): SPANS of x of n PLACES at most.", () -> {
            text("abc.ab.a");
            x.region(0);
            String[] want = {"505", "304 505", "2 304 505"};
            for (int n = 1; n <= 3; n++) {
                dueList(want[n - 1], x.brief(0, n));
            }
            text("a".repeat(54));
            x.region(2);
            dueList("", x.brief(4, 59));
            dueList("59", x.brief(4, 60));
            x.word(9);
            dueList("", x.brief(7, 60));
            beyond(Edges::busy, 1, 60, n -> () -> x.brief(0, n));
            faultOfAsk(Edges::calm, "a^0", 2);
            faultOfAsk(Edges::calm, "a^61", 2);
        });
        edge("11 SOME k x y z (k 1 to 3): for each way to take k of x, y, z and a SPAN of each of these, that from their least FIRST to their greatest LAST; of all these THE LEAST.", () -> {
            text("adbc");
            ask("a|b|c");
            x.word(15);
            // 0 a, 1 b, 3 c, 5 none: at 0, 2, 3
            some("0 202 303", 1, 0, 1, 3);
            some("2 203", 2, 0, 1, 3);
            some("3", 3, 0, 1, 3);
            some("3", 3, 3, 1, 0);
            some("202", 3, 1, 1, 1);
            some("202", 2, 1, 1, 5);
            some("202", 1, 5, 5, 1);
            some("", 2, 5, 5, 1);
            some("203", 2, 5, 3, 1);
            some("", 3, 5, 3, 1);
            some("", 1, 5, 5, 5);
            some("0 202", 2, 0, 1, 2);
            beyond(Edges::busy, 1, 3, k -> () -> x.some(k, 0, 1, 2));
            again();
            x.write(0);
            places(57, 3);
            text("bc");
            ask("{3 a,b,c}");
            dueList("59", 3);
        });
    }

    private static void some(String want, int k, int one, int other, int third) {
        dueList(want, x.some(k, one, other, third));
        x.drop();
    }

    private static void grammar() {
        edge("An ASK is read from THE TAPE (bytes).", () -> {
            due(0, ask("p"));
            due(0, x.status(6));
            again();
            due(0, ask("(".repeat(124) + "p" + ")".repeat(124)));
            again();
            due(0, ask(" ".repeat(249) + "p"));
            dueLeaf(0, 0, 15);
        });
        edge("ASK: one EACH, or several with | between: EITHER of two, from the left (of that and the next one, ..).", () -> {
            due(4, ask("a|b|c"));
            duePair(2, 2, 0, 1);
            duePair(4, 2, 2, 3);
            due(9, ask("a&b|c"));
            duePair(7, 3, 5, 6);
            duePair(9, 2, 7, 8);
            missing("|");
            again();
            due(22, ask("a" + "|a".repeat(11)));
            duePair(22, 2, 20, 21);
        });
        edge("EACH: one CHAIN, or several with & between: BOTH, from the left.", () -> {
            due(4, ask("a&b&c"));
            duePair(2, 3, 0, 1);
            duePair(4, 3, 2, 3);
            due(9, ask("a|b&c"));
            duePair(8, 3, 6, 7);
            duePair(9, 2, 5, 8);
            missing("&");
        });
        edge("CHAIN: one TEST, or several with < between: THEN, from the left.", () -> {
            due(4, ask("a<b<c"));
            duePair(2, 4, 0, 1);
            duePair(4, 4, 2, 3);
            due(9, ask("a&b<c"));
            duePair(8, 4, 6, 7);
            duePair(9, 3, 5, 8);
            missing("<");
        });
        edge("TEST: a PLAIN, and behind it, from the left, as many as one likes of: @ PLAIN (IN), ! PLAIN (OUT), # PLAIN (HAS), - PLAIN (LACKS), ^ NUMBER (SHORT; 1 to 60).", () -> {
            due(0, ask("a"));
            due(9, ask("a@b!c#d-e"));
            duePair(3, 5, 1, 2);
            duePair(5, 6, 3, 4);
            duePair(7, 7, 5, 6);
            duePair(9, 8, 7, 8);
            due(12, ask("a^1^60"));
            dueAsk(11, 10, 10, NONE, NONE, 1);
            dueAsk(12, 10, 11, NONE, NONE, 60);
            // short is what is ahead in the test, with all that it is tested by, and no more
            due(18, ask("a@b^3!c"));
            duePair(15, 5, 13, 14);
            dueAsk(16, 10, 15, NONE, NONE, 3);
            duePair(18, 6, 16, 17);
            // a test is of one plain, and not of what is ahead
            again();
            due(4, ask("a<b@c"));
            duePair(3, 5, 1, 2);
            duePair(4, 4, 0, 3);
            for (int kind = 2; kind <= 4; kind++) {
                int first = x.status(3);
                due(first + 3, ask("a" + "|&<".charAt(kind - 2) + "b^2"));
                dueAsk(first + 2, 10, first + 1, NONE, NONE, 2);
                duePair(first + 3, kind, first, first + 2);
            }
            for (String sign : new String[] {"@", "!", "#", "-"}) {
                missing(sign);
                faultOfAsk(Edges::calm, "a" + sign + "^1", 2);
            }
            faultOfAsk(Edges::calm, "^1", 0);
            again();
            due(23, ask("a" + "^1".repeat(23)));
            dueAsk(23, 10, 22, NONE, NONE, 1);
        });
    }

    /** A sign between two is missing one of them. */
    private static void missing(String sign) {
        faultOfAsk(Edges::calm, sign, 0);
        faultOfAsk(Edges::calm, sign + "a", 0);
        faultOfAsk(Edges::calm, "a" + sign, 2);
        faultOfAsk(Edges::calm, "a" + sign + sign + "b", 2);
        faultOfAsk(Edges::calm, "(a" + sign + ")", 3);
    }

    private static void plains() {
        edge("PLAIN: a letter a to p (WORD); ' 2 to 4 letters a to p ' (PHRASE); S, P, T (REGION 0, 1, 2); ( ASK ); { NUMBER (1 to 3) ASK , ASK , ASK } (SOME).", () -> {
            for (int word = 0; word < 16; word++) {
                x.feed('a' + word);
                due(word, x.ask());
                dueLeaf(word, 0, word);
            }
            due(16, ask("'ab'"));
            due(17, ask("'pppp'"));
            dueLeaf(16, 1, 0);
            dueLeaf(17, 1, 15);
            due(18, ask("S"));
            due(19, ask("P"));
            due(20, ask("T"));
            dueLeaf(18, 9, 0);
            dueLeaf(19, 9, 1);
            dueLeaf(20, 9, 2);
            due(21, ask("((a))"));
            again();
            due(3, ask("{1a,b,c}"));
            dueAsk(3, 11, 0, 1, 2, 1);
            due(9, ask("{3 a|b , (c) , d}"));
            dueAsk(9, 11, 6, 7, 8, 3);
        });
        edge("( ASK ); { NUMBER (1 to 3) ASK , ASK , ASK } (SOME).", () -> {
            due(0, ask("a"));
            faultOfAsk(Edges::calm, "()", 1);
            faultOfAsk(Edges::calm, ")", 0);
            faultOfAsk(Edges::calm, "(a))", 3);
            faultOfAsk(Edges::calm, "((a)", 4);
            faultOfAsk(Edges::calm, "(a,b)", 2);
            faultOfAsk(Edges::calm, "(a}", 2);
            faultOfAsk(Edges::calm, "{0a,b,c}", 1);
            faultOfAsk(Edges::calm, "{4a,b,c}", 1);
            faultOfAsk(Edges::calm, "{a,b,c}", 1);
            faultOfAsk(Edges::calm, "{1a,b}", 5);
            faultOfAsk(Edges::calm, "{1a,b,c,d}", 7);
            faultOfAsk(Edges::calm, "{1,b,c}", 2);
            faultOfAsk(Edges::calm, "{1a,b,}", 6);
            faultOfAsk(Edges::calm, "{1a,b,c)", 7);
            faultOfAsk(Edges::calm, "{1(a,b,c)}", 4);
            faultOfAsk(Edges::calm, "({1a,b,c)", 8);
        });
        edge("a letter a to p (WORD); ' 2 to 4 letters a to p ' (PHRASE); S, P, T (REGION 0, 1, 2);", () -> {
            String letters = "abcdefghijklmnop";
            String joins = "|&<@!#-^";
            eachByteBehind("", letters + "SPT", " ('{");
            eachByteBehind("a", " ", joins);
            eachByteBehind("(a", ")", " " + joins);
            eachByteBehind("{1a", "", " ," + joins);
            eachByteBehind("{1a,a", "", " ," + joins);
            eachByteBehind("{1a,a,a", "}", " " + joins);
            eachByteBehind("'", "", " " + letters);
            eachByteBehind("'a", "", " " + letters);
            eachByteBehind("'ab", "'", " " + letters);
            eachByteBehind("'abc", "'", " " + letters);
            eachByteBehind("'abcd", "'", " ");
            eachByteBehind("'ab'", " ", joins);
            eachByteBehind("a@", letters + "SPT", " ('{");
            eachByteBehind("(a)", " ", joins);
        });
    }

    /** Of all bytes behind some, those that end an ASK, and those that need more; no other can stand there. */
    private static void eachByteBehind(String ahead, String ending, String open) {
        for (int b = 0; b <= 255; b++) {
            again();
            feed(ahead);
            x.feed(b);
            int answer = x.ask();
            if (ending.indexOf(b) >= 0) {
                due(x.status(3) - 1, answer);
            } else {
                due(-20 - ahead.length() - (open.indexOf(b) >= 0 ? 1 : 0), answer);
                due(0, x.status(3));
            }
        }
    }

    private static void numbers() {
        edge("A NUMBER is of digits, as many as stand one behind the other, 2 at most.", () -> {
            for (int n = 1; n <= 60; n++) {
                again();
                due(1, ask("a^" + n));
                due(n, x.askOf(1, 4));
            }
            for (int n = 61; n <= 99; n++) {
                again();
                due(-22, ask("a^" + n));
            }
            due(1, ask("a^09"));
            due(9, x.askOf(1, 4));
            due(5, ask("{03a,b,c}"));
            due(3, x.askOf(5, 4));
            faultOfAsk(Edges::calm, "a^0", 2);
            faultOfAsk(Edges::calm, "a^00", 2);
            faultOfAsk(Edges::calm, "a^001", 2);
            faultOfAsk(Edges::calm, "a^060", 2);
            faultOfAsk(Edges::calm, "a^100", 2);
            faultOfAsk(Edges::calm, "a^4294967297", 2);
            faultOfAsk(Edges::calm, "{003a,b,c}", 1);
            faultOfAsk(Edges::calm, "{10a,b,c}", 1);
            faultOfAsk(Edges::calm, "{00a,b,c}", 1);
            faultOfAsk(Edges::fresh, "a^" + "1".repeat(248), 2);
            eachByteBehind("a^", "123456789", " ");
            eachByteBehind("{", "", " 123");
        });
        edge("Blanks (32) may stand anywhere but in a NUMBER.", () -> {
            due(2, ask("  ( a  |  b )  "));
            due(3, ask(" ' a b  c ' "));
            due(5, ask("a ^ 12 "));
            due(12, x.askOf(5, 4));
            due(9, ask(" { 2 a , b , c } "));
            faultOfAsk(Edges::calm, "a^1 2", 4);
            faultOfAsk(Edges::calm, "{1 2a,b,c}", 3);
            faultOfAsk(Edges::calm, "a\t", 1);
        });
    }

    private static void order() {
        edge("Each WORD, PHRASE, REGION, pair, SHORT, SOME becomes a new ASK, in the order in which they are whole (what it is over ahead of it), even if there is one like it.", () -> {
            due(2, ask("a&a"));
            dueLeaf(0, 0, 0);
            dueLeaf(1, 0, 0);
            duePair(2, 3, 0, 1);
            due(3, ask("(((a)))"));
            dueLeaf(3, 0, 0);
            due(16, ask("a@'ab'|{1 S^3, b<(c|d), T}"));
            int[] kinds = {0, 1, 5, 9, 10, 0, 0, 0, 2, 4, 9, 11, 2};
            for (int i = 0; i < kinds.length; i++) {
                due(kinds[i], x.askOf(4 + i, 0));
            }
        });
    }

    private static void faults() {
        edge("The FAULT: the place of the first byte that can't stand there (of a NUMBER that may not be, or is too long: of its first digit); THE TAPE's size, if it ends too early.", () -> {
            due(-20, x.ask());
            faultOfAsk(Edges::calm, "", 0);
            faultOfAsk(Edges::calm, "   ", 3);
            faultOfAsk(Edges::calm, "q|q", 0);
            faultOfAsk(Edges::calm, "a|q^0", 2);
            faultOfAsk(Edges::calm, "a b", 2);
            faultOfAsk(Edges::calm, "a^ 61", 3);
            faultOfAsk(Edges::calm, "a^ 160 q", 3);
            faultOfAsk(Edges::calm, "{ 4", 2);
            faultOfAsk(Edges::calm, "a^ ", 3);
            faultOfAsk(Edges::calm, "{1", 2);
            faultOfAsk(Edges::calm, "'ab ", 4);
            faultOfAsk(Edges::calm, "(a", 2);
            faultOfAsk(Edges::fresh, "(".repeat(250), 250);
            faultOfAsk(Edges::fresh, "(".repeat(249) + "q", 249);
            faultOfAsk(Edges::fresh, "{1".repeat(125), 250);
            faultOfAsk(Edges::fresh, " ".repeat(250), 250);
            faultOfAsk(Edges::fresh, "a" + "|a".repeat(124) + "|", 250);
            faultOfAsk(Edges::fresh, "a" + " ".repeat(248) + "q", 249);
            for (String open : new String[] {"'", "'ab", "'abcd", "a^", "{", "{3", "{1a,b,c", "(a", "a@"}) {
                faultOfAsk(Edges::fresh, open + " ".repeat(250 - open.length()), 250);
                faultOfAsk(Edges::fresh, " ".repeat(250 - open.length()) + open, 250);
            }
            // what stood behind on a longer tape is no part of this one
            String[][] longer = {{"'ab'", "'ab"}, {"'abc'", "'ab"}, {"a^ 1", "a^"}, {"a^1", "a^"}, {"a^11", "a^"}, {"{1a,b,c}", "{1a,b,c"},
                {"(a)", "(a"}, {"a|b", "a|"}};
            for (String[] two : longer) {
                again();
                due(0, Math.min(0, ask(two[0])));
                due(-20 - two[1].length(), ask(two[1]));
            }
            again();
            due(1, ask("a^12"));
            due(3, ask("a^1"));
            due(1, x.askOf(3, 4));
        });
    }
}
