import java.nio.file.Path;
import java.util.Arrays;
import java.util.function.IntFunction;
import java.util.function.LongSupplier;

/**
 * What the tests of boundary cases lean on. Each is of one sentence, which must stand in the
 * document as it is quoted, and runs on a new object that isn't used for more calls than promised.
 */
abstract class Edges extends Checks {
    static final Document DOC = new Document(Path.of("../shared/DOC.md"));

    private static String section = "";

    /** The part of the document of which the sentences that follow are. */
    static void in(String name) {
        section = name;
    }

    static void edge(String sentence, Runnable test) {
        begin(section + ", \"" + sentence + "\"", Counted.PROMISED);
        if (!DOC.quote(section, sentence)) {
            tell("no such sentence stands there");
        }
        long ahead = answers();
        try {
            test.run();
        } catch (RuntimeException e) {
            tell("threw " + e + " at " + Arrays.toString(e.getStackTrace()));
        }
        if (answers() == ahead) {
            tell("nothing is tested");
        }
    }

    static void again() {
        x = new Counted(Counted.PROMISED);
    }

    // ---- states in which a call is made ----

    /** A new object. */
    static void fresh() { }

    /**
     * Something of all: places 0 c, 1 a/, 2 b, 3 d., 4 a, 5 b; asks 0 c, 1 a, 2 b, 3 S, 4 'ab',
     * 5 a & b, 6 (5)^2, 7 two of c, a, b; shelves 0 to 4 rows of ints (5), bytes (2), longs (3),
     * shorts (0), booleans (3), 5 ask 5, 6 and 7 nothing; what is kept is another state.
     */
    static void calm() {
        x.seed(7);
        text("ca.");
        x.word(2);
        x.image();
        text("/bd.ab");
        x.stand(3, 1, 1);
        x.stand(9, 0, 1);
        x.word(0);
        x.word(1);
        x.region(0);
        row(0, 2, 0, 1, 2, 3, 99);
        x.phrase(0, 2);
        x.pair(3, 1, 2);
        x.brief(5, 2);
        x.some(2, 0, 1, 2);
        row(1, 0, -1, 16);
        row(2, 3, 1L << 32, 5, -7);
        x.row(3, 1, 0);
        row(4, 4, 1, 0, 1);
        x.show(5, 5);
        x.write(-1);
        for (int i = 0; i < 4; i++) {
            x.phrase(1, 2);
            x.says(0, 0);
            x.says(6, 0);
        }
    }

    /** The same with a tape of 2 bytes: as a text, and as an ask, it has another fault. */
    static void busy() {
        calm();
        feed("a<");
    }

    /** All is full: 60 places, 24 asks, 8 rows of 40 elements, 250 bytes. */
    static void full() {
        x.days(60);
        for (int ask = 0; ask < 24; ask++) {
            x.word(ask % 16);
        }
        for (int s = 0; s < 8; s++) {
            x.row(s, s % 5, 40);
            x.set(s, 39, 1);
        }
        feed("a".repeat(250));
    }

    static void places(int n, int word) {
        for (int place = 0; place < n; place++) {
            x.write(word);
        }
    }

    static void words(int n) {
        for (int ask = 0; ask < n; ask++) {
            x.word(ask % 16);
        }
    }

    // ---- calls that are refused, or change nothing ----

    /** In a state each call is refused with a number, which is counted once, and all else stays. */
    static void refused(int number, Runnable state, LongSupplier... calls) {
        for (LongSupplier call : calls) {
            refusedAs(number, number, state, call);
        }
    }

    static void refusedAs(int number, long answer, Runnable state, LongSupplier call) {
        int[] more = new int[5];
        more[BAD - number] = 1;
        staysBut(more, state, () -> due(answer, call.getAsLong()));
    }

    /** The numbers next to both bounds, and the furthest ones, are all BAD. */
    static void beyond(Runnable state, int low, int high, IntFunction<LongSupplier> call) {
        for (int n : new int[] {MIN, low - 1, high + 1, MAX}) {
            refused(BAD, state, call.apply(n));
        }
    }

    /** Numbers of no ask are BAD: where there are none, 8 and 24, and where one was that is no more. */
    static void noAsk(IntFunction<LongSupplier> call) {
        beyond(Edges::fresh, 0, -1, call);
        beyond(Edges::busy, 0, 7, call);
        beyond(Edges::full, 0, 23, call);
        refused(BAD, () -> { busy(); x.drop(); }, call.apply(7));
        refused(BAD, () -> { x.image(); places(60, 2); words(24); x.back(); }, call.apply(0));
    }

    /** No call of these is refused, and all stays as it was. */
    static void changesNothing(Runnable state, Runnable calls) {
        staysBut(new int[5], state, calls);
    }

    /** All that can be seen is the same with and without the calls, but for refusals to be counted. */
    private static void staysBut(int[] more, Runnable state, Runnable calls) {
        Counted was = x;
        again();
        state.run();
        int[] counts = Looks.refusals(x);
        calls.run();
        for (int i = 0; i < 5; i++) {
            due(counts[i] + more[i], x.status(12 + i));
        }
        for (int look = 0; look < Looks.HOW_MANY; look++) {
            again();
            state.run();
            String without = Looks.at(x, look);
            again();
            state.run();
            calls.run();
            dueText(without, Looks.at(x, look));
        }
        x = was;
    }

    /** A tape that is no text, ask: nothing changes but that BAD is counted, and the tape is empty. */
    static void faultOfText(Runnable state, String tape, int fault) {
        refusedAs(BAD, -20 - fault, state, () -> text(tape));
    }

    static void faultOfAsk(Runnable state, String tape, int fault) {
        refusedAs(BAD, -20 - fault, state, () -> ask(tape));
    }
}
