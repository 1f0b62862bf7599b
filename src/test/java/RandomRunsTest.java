import java.util.Random;

/** Runs of drawn calls (the same ones each time), each answer against the plain model's. */
public final class RandomRunsTest {
    private static final String[] NAMES = {
        "row", "set", "copy", "element", "holds", "show", "says", "write", "end", "change", "stand", "feed",
        "wipe", "text", "ask", "word", "phrase", "pair", "region", "brief", "some", "drop", "askOf", "placeOf",
        "many", "span", "next", "at", "crowd", "cover", "lengths", "apart", "pins", "score", "rank", "window",
        "gap", "under", "alike", "same", "inside", "words", "whatIf", "bestWord", "kinds", "judge", "leap",
        "fold", "days", "seed", "image", "back", "status"
    };
    private static final int[] EDGES = {
        Integer.MIN_VALUE, Integer.MIN_VALUE + 1, -3, -2, -1, 0, 1, 2, 3, 4, 5, 6, 7, 8, 9, 10, 11, 12, 15, 16, 17,
        19, 20, 21, 23, 24, 25, 39, 40, 41, 59, 60, 61, 250, 255, 256, Integer.MAX_VALUE - 1, Integer.MAX_VALUE
    };

    private final Random random;
    private final Both both = new Both();
    /** Of 16 words a run uses so many: few make full lists. */
    private final int words;
    private final boolean isWild;

    private RandomRunsTest(long seed) {
        random = new Random(seed);
        words = 1 + random.nextInt(random.nextBoolean() ? 4 : 16);
        isWild = random.nextInt(6) == 0;
    }

    private int below(int n) {
        return random.nextInt(n);
    }

    private int edge() {
        return EDGES[below(EDGES.length)];
    }

    /** A number from low to high, and now and then another one. */
    private int about(int low, int high) {
        int of = below(isWild ? 4 : 25);
        if (of == 0) {
            return edge();
        }
        if (of == 1) {
            return low - 1 + below(high - low + 3);
        }
        return low + below(Math.max(1, high - low + 1));
    }

    private int anAsk() {
        return about(0, both.x.status(3) - 1);
    }

    private int aPlace() {
        return about(0, both.x.status(0) - 1);
    }

    private int aWord() {
        return below(12) == 0 ? about(0, 15) : about(0, words - 1);
    }

    private int aShelf() {
        return about(0, below(4) == 0 ? 7 : 2);
    }

    /** The last elements of a row are written by another call. */
    private int aCount(int most) {
        return below(3) == 0 ? about(0, 3) : about(0, most);
    }

    private String aText() {
        StringBuilder text = new StringBuilder();
        int size = below(20) == 0 ? 61 : below(14);
        for (int i = 0; i < size; i++) {
            text.append((char) ('a' + below(words)));
            int mark = below(12);
            text.append(mark == 0 ? "." : mark == 1 ? "/" : mark == 2 ? "./" : mark == 3 ? " " : "");
        }
        return spoiled(text);
    }

    private String spoiled(StringBuilder text) {
        if (below(5) == 0 && text.length() > 0) {
            String signs = " abpqSPTU.'/(){},|&<@!#-^0123456789\0\377";
            char sign = signs.charAt(below(signs.length()));
            int place = below(text.length());
            switch (below(3)) {
                case 0: text.setCharAt(place, sign); break;
                case 1: text.insert(place, sign); break;
                default: text.setLength(place); break;
            }
        }
        return text.toString();
    }

    private String blank() {
        return below(10) == 0 ? " " : "";
    }

    private void addAsk(StringBuilder text, int depth, int level) {
        text.append(blank());
        if (level < 3) {
            int several = below(4) == 0 ? 2 + below(2) : 1;
            for (int i = 0; i < several; i++) {
                text.append(i == 0 ? "" : "|&<".substring(level, level + 1));
                addAsk(text, depth, level + 1);
            }
        } else {
            addPlain(text, depth);
            int tests = below(4) == 0 ? 1 + below(3) : 0;
            for (int i = 0; i < tests; i++) {
                text.append(blank());
                if (below(4) == 0) {
                    text.append('^').append(blank()).append(below(8) == 0 ? "0" : "").append(1 + below(below(4) == 0 ? 60 : 9));
                } else {
                    text.append("@!#-".charAt(below(4)));
                    addPlain(text, depth);
                }
            }
        }
        text.append(blank());
    }

    private void addPlain(StringBuilder text, int depth) {
        text.append(blank());
        int of = below(depth > 0 ? 12 : 9);
        if (of < 6) {
            text.append((char) ('a' + below(words)));
        } else if (of == 6) {
            text.append("SPT".charAt(below(3)));
        } else if (of <= 8) {
            text.append('\'');
            int size = 2 + below(below(3) == 0 ? 3 : 1);
            for (int i = 0; i < size; i++) {
                text.append(blank()).append((char) ('a' + below(words)));
            }
            text.append(blank()).append('\'');
        } else if (of < 11) {
            text.append('(');
            addAsk(text, depth - 1, 0);
            text.append(')');
        } else {
            text.append('{').append(blank()).append(1 + below(3));
            for (int i = 0; i < 3; i++) {
                text.append(i == 0 ? " " : ",");
                addAsk(text, depth - 1, 0);
            }
            text.append('}');
        }
    }

    private void feedAsk() {
        StringBuilder text = new StringBuilder();
        int brackets = below(25) == 0 ? below(110) : 0;
        text.append("(".repeat(brackets));
        addAsk(text, below(3), 0);
        text.append(")".repeat(brackets));
        String told = spoiled(text);
        if (told.length() <= 260) {
            both.feedAll(told);
        }
    }

    /** Puts the list of an ask, or of a pair of them, into a shelf, so that it can be told. */
    private void tellList() {
        int asks = both.x.status(3);
        if (asks == 0) {
            return;
        }
        int ask = below(asks);
        int spans = (int) both.call("many", ask);
        both.call("row", 1, 2 + below(2), 40);
        for (int i = 0; i < spans && i < 20; i++) {
            int told = (int) both.call("span", ask, i);
            both.call("set", 1, 2 * i, told / 100);
            both.call("set", 1, 2 * i + 1, told % 100);
        }
        if (below(3) == 0) {
            both.call("set", 1, below(40), below(60));
        }
        int n = Math.max(0, Math.min(20, spans + (below(3) == 0 ? below(3) - 1 : 0)));
        both.call("judge", ask, 1, n);
        both.call("judge", below(asks), 1, n);
        both.call("kinds", both.x.askOf(ask, 1), both.x.askOf(ask, 2), 1, n);
        both.call("kinds", below(asks), below(asks), 1, n);
    }

    private void step() {
        String name = NAMES[below(NAMES.length)];
        switch (name) {
            case "row": both.call(name, aShelf(), about(0, 4), about(0, below(2) == 0 ? 40 : 6)); break;
            case "set": both.call(name, aShelf(), about(0, 6), aValue()); break;
            case "copy": both.call(name, aShelf(), aShelf(), about(0, 3), about(0, 3), about(0, 4)); break;
            case "element": both.call(name, aShelf(), about(0, 5)); break;
            case "holds": both.call(name, about(0, 7)); break;
            case "show": both.call(name, about(0, 7), anAsk()); break;
            case "says": both.call(name, about(0, 7), about(0, 6)); break;
            case "write": both.call(name, aWord()); break;
            case "end": both.call(name, about(1, 2)); break;
            case "change": both.call(name, aPlace(), aWord()); break;
            case "stand": both.call(name, aWord(), aWord(), about(0, 1)); break;
            case "feed": both.call(name, about(0, 255)); break;
            case "wipe": both.call(name); break;
            case "text":
                both.feedAll(aText());
                both.call(name);
                break;
            case "ask":
                feedAsk();
                both.call(name);
                break;
            case "word": both.call(name, aWord()); break;
            case "phrase": both.call(name, aShelf(), about(2, 4)); break;
            case "pair": both.call(name, about(2, 8), anAsk(), anAsk()); break;
            case "region": both.call(name, about(0, 2)); break;
            case "brief": both.call(name, anAsk(), below(2) == 0 ? about(1, 6) : about(1, 60)); break;
            case "some": both.call(name, about(1, 3), anAsk(), anAsk(), anAsk()); break;
            case "drop":
                for (int i = below(3) == 0 ? below(8) : 1; i > 0; i--) {
                    both.call(name);
                }
                break;
            case "askOf": both.call(name, anAsk(), about(0, 7)); break;
            case "placeOf": both.call(name, aPlace(), about(0, 4)); break;
            case "span": both.call(name, anAsk(), about(0, 5)); break;
            case "next": both.call(name, anAsk(), about(-2, 62), about(0, 3)); break;
            case "at":
            case "bestWord": both.call(name, anAsk(), aPlace()); break;
            case "many":
            case "crowd":
            case "same":
            case "inside": both.call(name, anAsk()); break;
            case "cover":
            case "lengths":
            case "words": both.call(name, anAsk(), about(0, 2)); break;
            case "apart":
            case "pins": both.call(name, anAsk(), about(-1, 4)); break;
            case "score":
            case "rank": both.call(name, anAsk(), about(0, both.x.status(2) - 1)); break;
            case "window": both.call(name, anAsk(), below(2) == 0 ? about(1, 9) : about(1, 60), about(0, 1)); break;
            case "gap":
            case "alike": both.call(name, anAsk(), anAsk()); break;
            case "under": both.call(name, anAsk(), anAsk(), about(0, 2)); break;
            case "whatIf": both.call(name, anAsk(), aPlace(), aWord()); break;
            case "kinds":
                tellList();
                both.call(name, anAsk(), anAsk(), aShelf(), aCount(20));
                break;
            case "judge":
                tellList();
                both.call(name, anAsk(), aShelf(), aCount(20));
                break;
            case "leap": both.call(name, anAsk(), aShelf(), aCount(40)); break;
            case "fold": both.call(name, about(2, 8), aShelf(), about(1, 6), about(-1, 3)); break;
            case "days": both.call(name, below(2) == 0 ? about(1, 4) : about(1, 60)); break;
            case "seed": both.call(name, below(2) == 0 ? edge() : random.nextInt()); break;
            case "image": both.call(name); break;
            case "back":
                if (below(3) == 0) {
                    both.call(name);
                }
                break;
            case "status": both.call(name, about(0, 17)); break;
            default: throw new IllegalStateException(name);
        }
    }

    private long aValue() {
        switch (below(6)) {
            case 0: return random.nextLong();
            case 1: return edge();
            case 2: return about(0, 60);
            default: return below(Math.max(1, Math.min(16, both.x.status(3))));
        }
    }

    private void run() {
        while (both.calls.size() < 440) {
            int ahead = both.calls.size();
            step();
            if (both.calls.size() > ahead && below(60) == 0) {
                both.compareAll();
            }
        }
        both.compareAll();
    }

    public static void main(String[] args) {
        int runs = args.length > 0 ? Integer.parseInt(args[0]) : 1200;
        int wrong = 0;
        for (int seed = 0; seed < runs && wrong < 3; seed++) {
            try {
                new RandomRunsTest(seed).run();
            } catch (Both.Unlike unlike) {
                wrong++;
                System.out.println("drawn run " + seed + ":\n" + unlike.getMessage());
            }
        }
        System.out.println(wrong == 0 ? runs + " drawn runs are as the model has them" : wrong + " drawn runs are not");
        if (wrong != 0) {
            System.exit(1);
        }
    }
}
