/**
 * A LeapingPassages whose calls are counted, so that a test can keep to those that are promised.
 * What is put between is the face alone: each call goes on as it is.
 */
final class Counted {
    /** "An object is used for at most 512 calls after it has been made". */
    static final int PROMISED = 512;

    private final LeapingPassages it = new LeapingPassages();
    private final int most;
    int calls = 0;

    Counted(int most) {
        this.most = most;
    }

    private LeapingPassages told() {
        calls++;
        if (calls > most) {
            throw new IllegalStateException("the test makes more than " + most + " calls of one object");
        }
        return it;
    }

    int row(int s, int sort, int n) { return told().row(s, sort, n); }
    int set(int s, int i, long v) { return told().set(s, i, v); }
    int copy(int p, int q, int i, int j, int n) { return told().copy(p, q, i, j, n); }
    long element(int s, int i) { return told().element(s, i); }
    int holds(int s) { return told().holds(s); }
    int show(int s, int ask) { return told().show(s, ask); }
    int says(int s, int as) { return told().says(s, as); }
    int write(int word) { return told().write(word); }
    int end(int mark) { return told().end(mark); }
    int change(int place, int word) { return told().change(place, word); }
    int stand(int word, int other, int is) { return told().stand(word, other, is); }
    int feed(int letter) { return told().feed(letter); }
    int wipe() { return told().wipe(); }
    int text() { return told().text(); }
    int ask() { return told().ask(); }
    int word(int word) { return told().word(word); }
    int phrase(int s, int n) { return told().phrase(s, n); }
    int pair(int kind, int x, int y) { return told().pair(kind, x, y); }
    int region(int region) { return told().region(region); }
    int brief(int x, int n) { return told().brief(x, n); }
    int some(int k, int x, int y, int z) { return told().some(k, x, y, z); }
    int drop() { return told().drop(); }
    int askOf(int ask, int what) { return told().askOf(ask, what); }
    int placeOf(int place, int what) { return told().placeOf(place, what); }
    int many(int ask) { return told().many(ask); }
    int span(int ask, int i) { return told().span(ask, i); }
    int next(int ask, int p, int what) { return told().next(ask, p, what); }
    int at(int ask, int place) { return told().at(ask, place); }
    int crowd(int ask) { return told().crowd(ask); }
    int cover(int ask, int what) { return told().cover(ask, what); }
    int lengths(int ask, int what) { return told().lengths(ask, what); }
    int apart(int ask, int i) { return told().apart(ask, i); }
    int pins(int ask, int i) { return told().pins(ask, i); }
    int score(int ask, int part) { return told().score(ask, part); }
    int rank(int ask, int i) { return told().rank(ask, i); }
    int window(int ask, int n, int what) { return told().window(ask, n, what); }
    int gap(int x, int y) { return told().gap(x, y); }
    int under(int x, int y, int what) { return told().under(x, y, what); }
    int alike(int x, int y) { return told().alike(x, y); }
    int same(int ask) { return told().same(ask); }
    int inside(int ask) { return told().inside(ask); }
    int words(int ask, int what) { return told().words(ask, what); }
    int whatIf(int ask, int place, int word) { return told().whatIf(ask, place, word); }
    int bestWord(int ask, int place) { return told().bestWord(ask, place); }
    int kinds(int x, int y, int s, int n) { return told().kinds(x, y, s, n); }
    int judge(int ask, int s, int n) { return told().judge(ask, s, n); }
    int leap(int ask, int s, int n) { return told().leap(ask, s, n); }
    int fold(int kind, int s, int n, int i) { return told().fold(kind, s, n, i); }
    int days(int n) { return told().days(n); }
    int seed(int v) { return told().seed(v); }
    int image() { return told().image(); }
    int back() { return told().back(); }
    int status(int what) { return told().status(what); }
}
