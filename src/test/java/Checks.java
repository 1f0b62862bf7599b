import java.util.Arrays;
import java.util.List;
import java.util.function.IntFunction;
import java.util.function.LongSupplier;

/** What the tests of the promises lean on; each promise runs on a new object x, as long as it likes. */
abstract class Checks {
    static final int MIN = Integer.MIN_VALUE;
    static final int MAX = Integer.MAX_VALUE;
    static final int NONE = LeapingPassages.NONE;
    static final int BAD = -2;
    static final int OTHER = -3;
    static final int NOTHING = -4;
    static final int STUCK = -5;
    static final int FULL = -6;

    static Counted x;

    private static int wrong = 0;
    private static long answers = 0;
    private static String running = "";

    static void run(String promise, Runnable calls) {
        begin("promise " + promise, MAX);
        calls.run();
    }

    static void begin(String name, int mostCalls) {
        running = name;
        x = new Counted(mostCalls);
    }

    /** How many answers were looked at. */
    static long answers() {
        return answers;
    }

    static void close() {
        System.out.println(wrong == 0 ? "all promises hold" : wrong + " answers are not as due");
        if (wrong != 0) {
            System.exit(1);
        }
    }

    static void tell(String text) {
        wrong++;
        StringBuilder lines = new StringBuilder();
        for (StackTraceElement e : new Throwable().getStackTrace()) {
            if (!List.of("Checks", "Edges").contains(e.getClassName()) && !e.getClassName().startsWith("java.")) {
                lines.append(lines.length() == 0 ? "" : " < ").append(e.getFileName()).append(' ').append(e.getLineNumber());
            }
        }
        System.out.println(running + ", lines " + lines + ": " + text);
    }

    static void due(long want, long got) {
        answers++;
        if (want != got) {
            tell("answered " + got + ", due is " + want);
        }
    }

    static void dueText(String want, String got) {
        answers++;
        if (!want.equals(got)) {
            tell("seen is " + got + ", due is " + want);
        }
    }

    static void dueList(String want, int ask) {
        dueText(want, list(ask));
    }

    // ---- refusals ----

    /** Each call is refused with a number, which is counted once, and nothing else changes. */
    static void refuses(int number, LongSupplier... calls) {
        for (LongSupplier call : calls) {
            refusesAs(number, number, call);
        }
    }

    static void refusesAs(int number, long answer, LongSupplier call) {
        int[] counts = counts();
        String before = seen();
        due(answer, call.getAsLong());
        counts[BAD - number]++;
        if (!Arrays.equals(counts, counts())) {
            tell("refusals are counted " + Arrays.toString(counts()) + ", due is " + Arrays.toString(counts));
        }
        if (!before.equals(seen())) {
            String[] was = before.split("\n");
            String[] is = seen().split("\n");
            int line = 0;
            while (line < was.length && line < is.length && was[line].equals(is[line])) {
                line++;
            }
            tell("a refused call changed what is seen in line " + line);
        }
    }

    /** Calls that answer NONE, and that is no refusal. */
    static void none(LongSupplier... calls) {
        for (LongSupplier call : calls) {
            int[] counts = counts();
            due(NONE, call.getAsLong());
            if (!Arrays.equals(counts, counts())) {
                tell("NONE was counted as a refusal");
            }
        }
    }

    static void badUnless(int low, int high, IntFunction<LongSupplier> call) {
        for (int n : new int[] {MIN, MIN + 1, low - 1, high + 1, MAX - 1, MAX}) {
            refuses(BAD, call.apply(n));
        }
    }

    static void badShelf(IntFunction<LongSupplier> call) {
        badUnless(0, 7, call);
    }

    static void badAsk(IntFunction<LongSupplier> call) {
        badUnless(0, x.status(3) - 1, call);
        refuses(BAD, call.apply(24));
    }

    static void badPlace(IntFunction<LongSupplier> call) {
        badUnless(0, x.status(0) - 1, call);
        refuses(BAD, call.apply(60));
    }

    static void badWord(IntFunction<LongSupplier> call) {
        badUnless(0, 15, call);
    }

    private static int[] counts() {
        int[] counts = new int[5];
        for (int i = 0; i < 5; i++) {
            counts[i] = x.status(12 + i);
        }
        return counts;
    }

    /** All that can be seen, but for how many refusals there were. */
    static String seen() {
        StringBuilder seen = new StringBuilder();
        for (int what = 0; what <= 8; what++) {
            seen.append(x.status(what)).append(' ');
        }
        for (int place = 0; place < x.status(0); place++) {
            for (int what = 0; what <= 4; what++) {
                seen.append(x.placeOf(place, what)).append(' ');
            }
        }
        for (int ask = 0; ask < x.status(3); ask++) {
            seen.append('\n');
            for (int what = 0; what <= 7; what++) {
                seen.append(x.askOf(ask, what)).append(' ');
            }
            seen.append(": ").append(list(ask));
        }
        for (int s = 0; s < 8; s++) {
            seen.append('\n').append(x.holds(s)).append(':');
            for (int i = 0; i < 40; i++) {
                seen.append(' ').append(x.element(s, i));
            }
        }
        return seen.toString();
    }

    /** The spans of an ask, each as it is told, by the calls many and span. */
    static String list(int ask) {
        StringBuilder list = new StringBuilder();
        int many = x.many(ask);
        for (int i = 0; i < many; i++) {
            list.append(i == 0 ? "" : " ").append(x.span(ask, i));
        }
        return list.toString();
    }

    // ---- short ways to say much ----

    static void feed(String text) {
        for (int i = 0; i < text.length(); i++) {
            x.feed(text.charAt(i));
        }
    }

    static int text(String text) {
        feed(text);
        return x.text();
    }

    static int ask(String ask) {
        feed(ask);
        return x.ask();
    }

    static void row(int s, int sort, long... values) {
        x.row(s, sort, values.length);
        for (int i = 0; i < values.length; i++) {
            x.set(s, i, values[i]);
        }
    }

    /** Of an ask: its KIND, what it is over, and its number (word, region, n, k). */
    static void dueAsk(int ask, int kind, int x0, int y, int z, int number) {
        due(kind, x.askOf(ask, 0));
        due(x0, x.askOf(ask, 1));
        due(y, x.askOf(ask, 2));
        due(z, x.askOf(ask, 3));
        due(number, x.askOf(ask, 4));
    }

    static void dueLeaf(int ask, int kind, int number) {
        dueAsk(ask, kind, NONE, NONE, NONE, number);
    }

    static void duePair(int ask, int kind, int x0, int y) {
        dueAsk(ask, kind, x0, y, NONE, NONE);
    }
}
