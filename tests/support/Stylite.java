/** A StyliteOverheard whose calls are counted: behind its 512th the document promises nothing, so no test may go there. */
final class Stylite {
    private static final int PROMISED = 512;

    private final StyliteOverheard x = new StyliteOverheard();
    private int calls;

    private StyliteOverheard next() {
        calls++;
        if (calls > PROMISED) {
            throw new IllegalStateException("a test makes more than " + PROMISED + " calls of one object");
        }
        return x;
    }

    int callsLeft() {
        return PROMISED - calls;
    }

    int stall(int likes, int price) {
        return next().stall(likes, price);
    }

    int stalls(int shelf, int i, int n) {
        return next().stalls(shelf, i, n);
    }

    int school(int reads) {
        return next().school(reads);
    }

    int mend(int number, int what, int v) {
        return next().mend(number, what, v);
    }

    int of(int number, int what) {
        return next().of(number, what);
    }

    int feed(int letter) {
        return next().feed(letter);
    }

    int law() {
        return next().law();
    }

    int thing(int remark) {
        return next().thing(remark);
    }

    int hours(int shelf, int n, int what) {
        return next().hours(shelf, n, what);
    }

    int often(int shelf, int n, int thing, int what) {
        return next().often(shelf, n, thing, what);
    }

    int round(int what) {
        return next().round(what);
    }

    int make(int tr, int k) {
        return next().make(tr, k);
    }

    int recite(int shelf, int k) {
        return next().recite(shelf, k);
    }

    long waysTo(int shelf) {
        return next().waysTo(shelf);
    }

    int most(int set, int nr, int k) {
        return next().most(set, nr, k);
    }

    int quiet(int nr, int k) {
        return next().quiet(nr, k);
    }

    int tellsMost(int n, int what) {
        return next().tellsMost(n, what);
    }

    int sold(int shelf, int n, int stall) {
        return next().sold(shelf, n, stall);
    }

    int places(int shelf, int n) {
        return next().places(shelf, n);
    }

    int best(int n, int k) {
        return next().best(n, k);
    }

    int when(int stall, int w, int what) {
        return next().when(stall, w, what);
    }

    int verdict(int shelf, int school) {
        return next().verdict(shelf, school);
    }

    int clash(int shelf, int school) {
        return next().clash(shelf, school);
    }

    int judge(int shelf, int school) {
        return next().judge(shelf, school);
    }

    int read(int shelf, int what) {
        return next().read(shelf, what);
    }

    int drawn(int seed, int nm, int tt, int what) {
        return next().drawn(seed, nm, tt, what);
    }

    int hour(int remark) {
        return next().hour(remark);
    }

    int fed(int v) {
        return next().fed(v);
    }

    int led(int what) {
        return next().led(what);
    }

    int image() {
        return next().image();
    }

    int back() {
        return next().back();
    }

    int undo() {
        return next().undo();
    }

    int redo() {
        return next().redo();
    }

    int body(int kind) {
        return next().body(kind);
    }

    int act(int body, int act, int x) {
        return next().act(body, act, x);
    }

    int trace(int i) {
        return next().trace(i);
    }

    int keep(int shelf, int body) {
        return next().keep(shelf, body);
    }

    int row(int shelf, int sort, int n) {
        return next().row(shelf, sort, n);
    }

    int put(int shelf, int i, long v) {
        return next().put(shelf, i, v);
    }

    long element(int shelf, int i) {
        return next().element(shelf, i);
    }

    int shift(int shelf, int i, int other, int j, int n) {
        return next().shift(shelf, i, other, j, n);
    }

    int taken(int shelf, int k) {
        return next().taken(shelf, k);
    }

    int count(int what) {
        return next().count(what);
    }
}
