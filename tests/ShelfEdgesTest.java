/** The edges of promises 35 to 44: bodies, acts, shelves, counts. Each sentence that names an edge has a test of its own. */
public final class ShelfEdgesTest {
    private static final int BAD = -1, FULL = -3, LACKS = -11, OTHER = -12, NO_PLACE = -13, BELOW_ZERO = -14;
    private static final long NONE = Long.MIN_VALUE;
    private static final int LEAST = Integer.MIN_VALUE, MOST = Integer.MAX_VALUE;
    private static final int[] NO_SHELVES = {-1, 6, LEAST, MOST};
    private static final String[] SORTS = {"bytes", "shorts", "ints", "longs", "booleans"};

    private static final Due due = new Due("ShelfEdgesTest");

    public static void main(String[] args) {
        bodyLimits();
        bodyFull();
        actNone();
        actByKinds();
        actWraps();
        traceLimits();
        traceOfTheLatest();
        keepLimits();
        keepInstead();
        rowLimits();
        rowRefusalsInOrder();
        rowOfZeros();
        putRefusals();
        putPlaces();
        putLowestBits();
        elementRefusals();
        elementPlaces();
        shiftRefusals();
        shiftRefusalsInOrder();
        shiftPlaces();
        shiftInItself();
        shiftOfSorts();
        takenRefusals();
        takenByKinds();
        countLimits();
        countCounts();
        due.end();
    }

    // ---- 35: body

    private static void bodyLimits() {
        due.test(35, "KIND (0 .. 7)");
        for (int kind : new int[] {-1, 8, LEAST, MOST}) {
            due.bad("body(" + kind + ")", x -> x.body(kind));
        }
        for (int kind = 0; kind <= 7; kind++) {
            Stylite x = Due.made();
            due.is("body(" + kind + ")", x.body(kind), 0);
            x.keep(0, 0);
            due.is("its KIND", x.taken(0, 0), kind);
        }
    }

    private static void bodyFull() {
        due.test(35, "BODIES 0 .. 49");
        Stylite x = Due.made();
        for (int i = 0; i < 50; i++) {
            due.is("its number", x.body(i % 8), i);
            due.is("how many", x.count(4), i + 1);
        }
        due.is("says of the first: x + n", x.act(0, 0, 100), 100);
        due.is("sells of the last but one: x ^ n", x.act(48, 2, 0), 48);
        due.test(35, "FULL");
        due.unchanged(Laid::fullOfBodies, "a fifty-first", y -> y.body(0), FULL);
        due.test(35, "BAD, FULL: of several the one named first");
        due.unchanged(Laid::fullOfBodies, "a fifty-first of 8", y -> y.body(8), BAD);
        due.unchanged(Laid::fullOfBodies, "a fifty-first of -1", y -> y.body(-1), BAD);
    }

    // ---- 36: act

    private static void actNone() {
        int[][] none = {{2, 0}, {-1, 0}, {49, 0}, {50, 0}, {LEAST, 0}, {MOST, 3}, {0, -1}, {0, 4}, {1, LEAST}, {1, MOST}, {9, 9}};
        for (int[] one : none) {
            due.test(36, "0, and no TRACE then: no such BODY, ACT; " + one[0] + ", " + one[1]);
            Stylite x = Due.made();
            Laid.furnished(x);
            due.is("bodies that ran ahead", x.count(5), 7);
            due.is("its answer", x.act(one[0], one[1], 7), 0);
            due.is("the trace", x.trace(0), BAD);
            due.is("bodies that ran", x.count(5), 0);
        }
        due.test(36, "no BODY at all");
        due.is("act", Due.made().act(0, 0, 7), 0);
    }

    /** By KINDS and ACTS, with x 5: what is answered of a body whose number is its KIND, and the bodies that run. */
    private static final int[][][] RUNS = {
        {{5, 1}, {10, 10, 1}, {5, 11}, {9, 2, 10, 1, 11}},
        {{9, 20, 1}, {18, 10, 20, 1}, {4, 11}, {18, 2, 10, 20, 1, 11}},
        {{7, 1}, {-14, 30, 10, 1}, {7, 11}, {-17, 2, 30, 10, 1, 11}},
        {{8, 1}, {-18, 41, 30, 10, 1}, {18, 40, 11}, {-24, 2, 41, 30, 10, 1, 40, 11}},
        {{12, 20, 1}, {24, 10, 20, 1}, {1, 11}, {22, 50, 2, 10, 20, 1, 11}},
        {{10, 1}, {-22, 41, 30, 10, 1}, {-7, 60, 40, 11, 1}, {-26, 61, 2, 41, 30, 10, 1, 60, 40, 11, 1}},
        {{22, 70, 1}, {44, 10, 70, 1}, {3, 11}, {37, 2, 10, 70, 1, 11}},
        {{23, 81, 70, 1}, {51, 80, 10, 81, 70, 1, 11}, {2, 11}, {45, 2, 80, 10, 81, 70, 1, 11, 11}},
    };

    private static void actByKinds() {
        String[] acts = {"says", "falls", "sells", "tells"};
        for (int kind = 0; kind <= 7; kind++) {
            Stylite x = Due.made();
            for (int i = 0; i <= 7; i++) {
                x.body(i);
            }
            for (int act = 0; act <= 3; act++) {
                int[] run = RUNS[kind][act];
                due.test(36, acts[act] + " of KIND " + kind);
                due.is("its answer", x.act(kind, act, 5), run[0]);
                due.is("bodies that ran", x.count(5), run.length - 1);
                for (int i = 1; i < run.length; i++) {
                    due.is("as they began: " + i, x.trace(i - 1), run[i]);
                }
                due.is("behind the last", x.trace(run.length - 1), BAD);
            }
        }
    }

    private static void actWraps() {
        Oracle oracle = new Oracle();
        for (int i = 0; i < 50; i++) {
            oracle.body(i % 8);
        }
        for (int v : new int[] {0, 1, -1, MOST, LEAST, MOST - 48, LEAST + 1, 1 << 30, -(1 << 30) - 1}) {
            due.test(36, "x (an int that wraps): " + v);
            Stylite x = Due.made();
            Laid.fullOfBodies(x);
            for (int body = 0; body < 50; body++) {
                for (int act = 0; act <= 3; act++) {
                    due.is("act(" + body + ", " + act + ", x)", x.act(body, act, v), oracle.act(body, act, v));
                }
            }
        }
        due.test(36, "the wraps by hand");
        Stylite x = Due.made();
        for (int i = 0; i <= 7; i++) {
            x.body(i);
        }
        due.is("x + n + 3", x.act(1, 0, MOST), LEAST + 3);
        due.is("says(x) * 2", x.act(0, 1, MOST), -2);
        due.is("says(x) * 2 of the least", x.act(0, 1, LEAST), 0);
        due.is("falls(x) - sells(1)", x.act(0, 3, 1 << 30), LEAST - 1);
        due.is("(x ^ n) * 3", x.act(3, 2, LEAST), LEAST + 9);
        due.is("falls(x + 1)", x.act(3, 1, MOST), -2 * (LEAST + 3));
    }

    // ---- 37: trace

    private static void traceLimits() {
        due.test(37, "THE TRACE's i-th body. BAD");
        // furnished: by tells of KIND 3 seven bodies ran
        for (int i : new int[] {-1, 7, 8, 23, 24, LEAST, MOST}) {
            due.bad("trace(" + i + ")", x -> x.trace(i));
        }
        due.unchanged(Laid::furnished, "the first", x -> x.trace(0), 2);
        Stylite x = Due.made();
        x.body(5);
        x.act(0, 3, 1);
        due.is("the tenth of ten", x.trace(9), 1);
        due.is("the ninth of ten", x.trace(8), 11);
        due.is("an eleventh", x.trace(10), BAD);
        due.is("of none", Due.made().trace(0), BAD);
    }

    private static void traceOfTheLatest() {
        due.test(37, "the bodies that ran in the latest act()");
        Stylite x = Due.made();
        x.body(5);
        x.body(0);
        x.act(0, 3, 1);
        x.act(1, 2, 1);
        due.is("the first", x.trace(0), 11);
        due.is("no second", x.trace(1), BAD);
        due.is("how many", x.count(5), 1);
        x.hour(1);
        x.body(8);
        x.keep(0, 0);
        due.is("it stays by other calls", x.trace(0), 11);
    }

    // ---- 38: keep

    private static void keepLimits() {
        due.test(38, "SHELVES 0 .. 5");
        for (int shelf : NO_SHELVES) {
            due.bad("keep(" + shelf + ", 0)", x -> x.keep(shelf, 0));
            due.bad("keep(" + shelf + ", -1)", x -> x.keep(shelf, -1));
        }
        due.test(38, "holds nothing (body -1), or a BODY. BAD");
        for (int body : new int[] {-2, 2, 49, 50, LEAST, MOST}) {
            due.badOnAnyShelf("body " + body, (x, shelf) -> x.keep(shelf, body));
        }
        due.is("of no bodies", Due.made().keep(0, 0), BAD);
        due.is("nothing of no bodies", Due.made().keep(0, -1), 1);
        Stylite x = Due.made();
        Laid.fullOfBodies(x);
        due.is("the last", x.keep(5, 49), 1);
        due.is("its KIND", x.taken(5, 0), 49 % 8);
        due.is("the first", x.keep(5, 0), 1);
        due.is("its KIND", x.taken(5, 0), 0);
    }

    private static void keepInstead() {
        for (int shelf = 0; shelf <= 5; shelf++) {
            due.test(38, "A SHELF holds nothing, or a BODY: whatever shelf " + shelf + " held");
            Stylite x = Due.made();
            Laid.furnished(x);
            due.is("a body", x.keep(shelf, 0), 1);
            due.is("its KIND", x.taken(shelf, 0), 0);
            due.is("no row", x.put(shelf, 0, 1), OTHER);
            due.is("another", x.keep(shelf, 1), 1);
            due.is("its KIND", x.taken(shelf, 0), 3);
            due.is("nothing", x.keep(shelf, -1), 1);
            due.is("nothing there", x.taken(shelf, 0), LACKS);
            due.is("no row", x.put(shelf, 0, 1), LACKS);
            due.is("nothing again", x.keep(shelf, -1), 1);
            for (int other = 0; other <= 5; other++) {
                int held = other == shelf || other == Laid.NOTHING ? LACKS : other == Laid.BODY ? 3 : OTHER;
                due.is("shelf " + other, x.taken(other, 0), held);
            }
        }
    }

    // ---- 39: row

    private static void rowLimits() {
        due.test(39, "SHELVES 0 .. 5");
        for (int shelf : NO_SHELVES) {
            due.bad("shelf " + shelf, x -> x.row(shelf, 0, 1));
        }
        due.test(39, "0 bytes, 1 shorts, 2 ints, 3 longs, 4 booleans");
        for (int sort : new int[] {-1, 5, LEAST, MOST}) {
            due.badOnAnyShelf("sort " + sort, (x, shelf) -> x.row(shelf, sort, 1));
        }
        due.test(39, "of 0 .. 60 elements: BAD (n above 60)");
        for (int n : new int[] {61, 62, MOST}) {
            due.badOnAnyShelf("n " + n, (x, shelf) -> x.row(shelf, 0, n));
        }
        for (int sort = 0; sort <= 4; sort++) {
            for (int n : new int[] {0, 1, 59, 60}) {
                Stylite x = Due.made();
                due.is(n + " " + SORTS[sort], x.row(5, sort, n), 1);
                due.is("the last", x.element(5, n - 1), n == 0 ? NONE : 0);
                due.is("one more", x.element(5, n), NONE);
            }
        }
        due.test(39, "-14 a size below 0");
        for (int n : new int[] {-1, -2, LEAST}) {
            for (int shelf = 0; shelf <= 5; shelf++) {
                int its = shelf;
                due.unchanged(Laid::furnished, "n " + n + " on shelf " + shelf, x -> x.row(its, 0, n), BELOW_ZERO);
            }
        }
    }

    private static void rowRefusalsInOrder() {
        due.test(39, "BAD, -14: of several the one named first");
        due.bad("sort 5, n -1", x -> x.row(0, 5, -1));
        due.bad("sort -1, n -1", x -> x.row(0, -1, -1));
        due.bad("shelf 6, n -1", x -> x.row(6, 0, -1));
        due.bad("shelf -1, n least", x -> x.row(-1, 0, LEAST));
    }

    private static void rowOfZeros() {
        for (int sort = 0; sort <= 4; sort++) {
            due.test(39, "0 at first (false): " + SORTS[sort]);
            Stylite x = Due.made();
            x.row(0, 3, 60);
            for (int i = 0; i < 60; i++) {
                x.put(0, i, -1);
            }
            due.is("a new row", x.row(0, sort, 60), 1);
            for (int i = 0; i < 60; i++) {
                due.is("element " + i, x.element(0, i), 0);
            }
        }
        due.test(39, "0 at first behind a shorter row, and behind a body");
        Stylite x = Due.made();
        Due.lay(x, 0, 3, 5, 6, 7);
        x.row(0, 3, 1);
        x.row(0, 3, 3);
        due.is("the second", x.element(0, 1), 0);
        due.is("the third", x.element(0, 2), 0);
        x.put(0, 2, 9);
        x.keep(0, -1);
        x.row(0, 3, 3);
        due.is("the third behind nothing", x.element(0, 2), 0);
        due.test(39, "one SHELF alone");
        Due.lay(x, 1, 0, 1, 2);
        x.row(2, 0, 2);
        due.is("the other", x.element(1, 1), 2);
    }

    // ---- 40: put

    private static void putRefusals() {
        due.test(40, "BAD: SHELVES 0 .. 5");
        for (int shelf : NO_SHELVES) {
            due.bad("shelf " + shelf, x -> x.put(shelf, 0, 1));
        }
        due.test(40, "-11 nothing is there where something is wanted");
        due.unchanged(Laid::furnished, "nothing", x -> x.put(Laid.NOTHING, 0, 1), LACKS);
        due.unchanged(Laid::furnished, "nothing, place -1", x -> x.put(Laid.NOTHING, -1, 1), LACKS);
        due.test(40, "-12 it is of another kind");
        due.unchanged(Laid::furnished, "a body", x -> x.put(Laid.BODY, 0, 1), OTHER);
        due.unchanged(Laid::furnished, "a body, place -1", x -> x.put(Laid.BODY, -1, 1), OTHER);
        due.test(40, "BAD, -11 to -13: of several the one named first");
        due.bad("shelf 6, place -1", x -> x.put(6, -1, 1));
    }

    private static void putPlaces() {
        due.test(40, "-13 a place that is not there");
        for (int i : new int[] {-1, 3, 59, 60, LEAST, MOST}) {
            due.unchanged(Laid::furnished, "place " + i + " of three", x -> x.put(Laid.BYTES, i, 9), NO_PLACE);
        }
        due.unchanged(x -> x.row(0, 2, 0), "the first of none", x -> x.put(0, 0, 9), NO_PLACE);
        due.unchanged(x -> x.row(0, 2, 60), "the sixty-first of sixty", x -> x.put(0, 60, 9), NO_PLACE);
        due.test(40, "Element i of a ROW becomes v");
        for (int sort = 0; sort <= 4; sort++) {
            Stylite x = Due.made();
            x.row(0, sort, 60);
            for (int i : new int[] {0, 1, 58, 59}) {
                due.is("put at " + i, x.put(0, i, 1), 1);
            }
            for (int i = 0; i < 60; i++) {
                due.is("element " + i + " of " + SORTS[sort], x.element(0, i), i < 2 || i > 57 ? 1 : 0);
            }
        }
    }

    private static void kept(int sort, long... pairs) {
        due.test(40, "what is put in keeps its lowest bits: " + SORTS[sort]);
        Stylite x = Due.made();
        x.row(0, sort, 3);
        for (int i = 0; i < pairs.length; i += 2) {
            due.is("put " + pairs[i], x.put(0, 1, pairs[i]), 1);
            due.is("element of " + pairs[i], x.element(0, 1), pairs[i + 1]);
        }
        due.is("the one ahead", x.element(0, 0), 0);
        due.is("the one behind", x.element(0, 2), 0);
    }

    private static void putLowestBits() {
        kept(0, 0, 0, 1, 1, 127, 127, 128, -128, 129, -127, 255, -1, 256, 0, 300, 44, -128, -128, -129, 127, -1, -1, -256, 0,
            Long.MAX_VALUE, -1, Long.MIN_VALUE, 0, 1L << 32, 0, (1L << 40) + 5, 5);
        kept(1, 32767, 32767, 32768, -32768, 65535, -1, 65536, 0, 65541, 5, -32768, -32768, -32769, 32767, 128, 128, 255, 255,
            Long.MAX_VALUE, -1, Long.MIN_VALUE, 0, (1L << 40) + 5, 5);
        kept(2, MOST, MOST, MOST + 1L, LEAST, LEAST, LEAST, LEAST - 1L, MOST, 1L << 32, 0, (1L << 32) - 1, -1, 65536, 65536,
            Long.MAX_VALUE, -1, Long.MIN_VALUE, 0, (1L << 40) + 5, 5);
        kept(3, Long.MAX_VALUE, Long.MAX_VALUE, Long.MIN_VALUE + 1, Long.MIN_VALUE + 1, -1, -1, 1L << 32, 1L << 32,
            MOST + 1L, MOST + 1L, 0, 0);
        kept(4, 0, 0, 1, 1, 2, 1, -1, 1, 256, 1, 0, 0, 1L << 32, 1, Long.MIN_VALUE, 1, Long.MAX_VALUE, 1, 0, 0);
    }

    // ---- 41: element

    private static void elementRefusals() {
        due.test(41, "Long.MIN_VALUE: BAD");
        for (int shelf : NO_SHELVES) {
            due.unchanged(Laid::furnished, "shelf " + shelf, x -> x.element(shelf, 0), NONE);
        }
        due.test(41, "Long.MIN_VALUE: -11");
        due.unchanged(Laid::furnished, "nothing", x -> x.element(Laid.NOTHING, 0), NONE);
        due.test(41, "Long.MIN_VALUE: -12");
        due.unchanged(Laid::furnished, "a body", x -> x.element(Laid.BODY, 0), NONE);
        due.test(41, "Long.MIN_VALUE: -13");
        for (int i : new int[] {-1, 3, 59, 60, LEAST, MOST}) {
            due.unchanged(Laid::furnished, "place " + i + " of three", x -> x.element(Laid.BYTES, i), NONE);
        }
        due.test(41, "a row that was longer, one that is gone");
        Stylite x = Due.made();
        Due.lay(x, 0, 3, 5, 6, 7);
        x.row(0, 3, 1);
        due.is("the second of one", x.element(0, 1), NONE);
        x.keep(0, -1);
        due.is("the first of nothing", x.element(0, 0), NONE);
        x.row(0, 3, 0);
        due.is("the first of none", x.element(0, 0), NONE);
    }

    private static void elementPlaces() {
        due.test(41, "Element i of a ROW");
        for (int shelf = 0; shelf <= 5; shelf++) {
            Stylite x = Due.made();
            Due.lay(x, shelf, 3, 5, -6, Long.MAX_VALUE);
            due.is("the first", x.element(shelf, 0), 5);
            due.is("the second", x.element(shelf, 1), -6);
            due.is("the third", x.element(shelf, 2), Long.MAX_VALUE);
            due.is("a fourth", x.element(shelf, 3), NONE);
        }
        due.unchanged(Laid::furnished, "it changes nothing", x -> x.element(Laid.INTS, 2), 9);
    }

    // ---- 42: shift

    private static void shiftRefused(String call, int answer, int shelf, int i, int other, int j, int n) {
        due.unchanged(Laid::furnished, call, x -> x.shift(shelf, i, other, j, n), answer);
    }

    private static void shiftRefusals() {
        due.test(42, "BAD: SHELVES 0 .. 5 (either)");
        for (int shelf : NO_SHELVES) {
            shiftRefused("from " + shelf, BAD, shelf, 0, 0, 0, 1);
            shiftRefused("to " + shelf, BAD, 0, 0, shelf, 0, 1);
        }
        due.test(42, "-11 (either)");
        shiftRefused("from nothing", LACKS, Laid.NOTHING, 0, 0, 0, 1);
        shiftRefused("to nothing", LACKS, 0, 0, Laid.NOTHING, 0, 1);
        shiftRefused("nothing to itself", LACKS, Laid.NOTHING, 0, Laid.NOTHING, 0, 0);
        due.test(42, "-12 (no ROWS)");
        shiftRefused("from a body", OTHER, Laid.BODY, 0, 0, 0, 1);
        shiftRefused("to a body", OTHER, 0, 0, Laid.BODY, 0, 1);
        shiftRefused("a body to itself", OTHER, Laid.BODY, 0, Laid.BODY, 0, 0);
        due.test(42, "-12 (of unlike sorts)");
        for (int from = 0; from <= 4; from++) {
            for (int to = 0; to <= 4; to++) {
                Stylite x = Due.made();
                x.row(0, from, 3);
                x.row(1, to, 3);
                due.is(SORTS[from] + " to " + SORTS[to], x.shift(0, 0, 1, 0, 3), from == to ? 3 : OTHER);
                due.is(SORTS[from] + " to " + SORTS[to] + ", none", x.shift(0, 0, 1, 0, 0), from == to ? 0 : OTHER);
            }
        }
        shiftRefused("bytes to ints", OTHER, Laid.BYTES, 0, Laid.INTS, 0, 1);
        shiftRefused("booleans to bytes", OTHER, Laid.BOOLEANS, 0, Laid.BYTES, 0, 1);
    }

    private static void shiftRefusalsInOrder() {
        due.test(42, "BAD, -11, -12, -13: of several the one named first");
        shiftRefused("from 6 to nothing", BAD, 6, 0, Laid.NOTHING, 0, 1);
        shiftRefused("from nothing to 6", BAD, Laid.NOTHING, 0, 6, 0, 1);
        shiftRefused("from a body to -1", BAD, Laid.BODY, 0, -1, 0, -1);
        shiftRefused("from a body to nothing", LACKS, Laid.BODY, 0, Laid.NOTHING, 0, 1);
        shiftRefused("from nothing to a body", LACKS, Laid.NOTHING, 0, Laid.BODY, 0, 1);
        shiftRefused("from nothing, n -1", LACKS, Laid.NOTHING, -1, 0, -1, -1);
        shiftRefused("to nothing, n -1", LACKS, 0, -1, Laid.NOTHING, -1, -1);
        shiftRefused("a body, n -1", OTHER, Laid.BODY, -1, 0, -1, -1);
        shiftRefused("unlike sorts, n -1", OTHER, Laid.BYTES, 0, Laid.INTS, 0, -1);
        shiftRefused("unlike sorts, too many", OTHER, Laid.BYTES, 0, Laid.INTS, 0, 9);
    }

    private static void shiftPlaces() {
        // shelf 0 has three bytes, shelf 5 has five
        due.test(42, "-13 (n below 0, too)");
        for (int n : new int[] {-1, -3, LEAST}) {
            shiftRefused("n " + n, NO_PLACE, 0, 0, 5, 0, n);
            shiftRefused("n " + n + " behind places", NO_PLACE, 0, 3, 5, 5, n);
        }
        due.test(42, "-13: from place i on");
        int[][] from = {{-1, 0}, {-1, 1}, {0, 4}, {1, 3}, {2, 2}, {3, 1}, {4, 0}, {4, 1}, {LEAST, 1}, {MOST, 0}, {MOST, 1},
            {1, MOST}, {3, MOST}, {MOST, MOST}};
        for (int[] one : from) {
            shiftRefused("i " + one[0] + ", n " + one[1], NO_PLACE, 0, one[0], 5, 0, one[1]);
        }
        due.test(42, "-13: from place j on");
        int[][] to = {{-1, 0}, {-1, 1}, {1, 3}, {2, 2}, {3, 1}, {4, 0}, {LEAST, 1}, {MOST, 0}, {MOST, 1}, {MOST, MOST}};
        for (int[] one : to) {
            shiftRefused("j " + one[0] + ", n " + one[1], NO_PLACE, 5, 0, 0, one[0], one[1]);
        }
        due.test(42, "n elements: none, too");
        shiftRefused("none at the ends", 0, 0, 3, 5, 5, 0);
        shiftRefused("none at the beginnings", 0, 0, 0, 5, 0, 0);
        shiftRefused("none in itself", 0, 0, 3, 0, 3, 0);
        due.is("none of none", shifted(new long[0], 0, new long[0], 0, 0), 0);
    }

    /** Shelf 0's to shelf 1's. */
    private static int shifted(long[] from, int i, long[] to, int j, int n, long... then) {
        Stylite x = Due.made();
        Due.bytes(x, 0, from);
        Due.bytes(x, 1, to);
        int answer = x.shift(0, i, 1, j, n);
        items(x, 0, from);
        items(x, 1, then);
        return answer;
    }

    private static void items(Stylite x, int shelf, long... all) {
        for (int i = 0; i < all.length; i++) {
            due.is("shelf " + shelf + ", element " + i, x.element(shelf, i), all[i]);
        }
        due.is("shelf " + shelf + ", its end", x.element(shelf, all.length), NONE);
    }

    private static void inItself(int i, int j, int n, long... then) {
        Stylite x = Due.made();
        Due.bytes(x, 0, 1, 2, 3, 4, 5);
        due.is("from " + i + " to " + j, x.shift(0, i, 0, j, n), n);
        items(x, 0, then);
    }

    private static void shiftInItself() {
        long[] three = {1, 2, 3};
        long[] five = {9, 8, 7, 6, 5};
        due.test(42, "n elements of a ROW from i on come to another one from j on: n");
        due.is("all", shifted(three, 0, five, 0, 3, 1, 2, 3, 6, 5), 3);
        due.is("all, to the end", shifted(three, 0, five, 2, 3, 9, 8, 1, 2, 3), 3);
        due.is("the last", shifted(three, 2, five, 4, 1, 9, 8, 7, 6, 3), 1);
        due.is("the first", shifted(three, 0, five, 0, 1, 1, 8, 7, 6, 5), 1);
        due.is("two of three", shifted(three, 1, five, 1, 2, 9, 2, 3, 6, 5), 2);
        due.test(42, "(or the same), as they all were before");
        inItself(0, 1, 4, 1, 1, 2, 3, 4);
        inItself(1, 0, 4, 2, 3, 4, 5, 5);
        inItself(0, 2, 3, 1, 2, 1, 2, 3);
        inItself(2, 0, 3, 3, 4, 5, 4, 5);
        inItself(0, 0, 5, 1, 2, 3, 4, 5);
        inItself(0, 4, 1, 1, 2, 3, 4, 1);
        due.test(42, "of 60 elements");
        Stylite x = Due.made();
        x.row(0, 3, 60);
        x.put(0, 0, 7);
        x.put(0, 59, 8);
        due.is("up by one", x.shift(0, 0, 0, 1, 59), 59);
        due.is("the second", x.element(0, 1), 7);
        due.is("the last", x.element(0, 59), 0);
        due.is("up by one, too many", x.shift(0, 0, 0, 1, 60), NO_PLACE);
        due.is("sixty", x.shift(0, 0, 0, 0, 60), 60);
    }

    private static void shiftOfSorts() {
        long[] greatest = {127, 32767, MOST, Long.MAX_VALUE, 1};
        for (int sort = 0; sort <= 4; sort++) {
            due.test(42, "n elements of " + SORTS[sort]);
            Stylite x = Due.made();
            Due.lay(x, 0, sort, greatest[sort], 0, 1);
            x.row(1, sort, 2);
            due.is("two", x.shift(0, 0, 1, 0, 2), 2);
            items(x, 1, greatest[sort], 0);
        }
    }

    // ---- 43: taken

    private static void takenRefusals() {
        due.test(43, "BAD: SHELVES 0 .. 5");
        for (int shelf : NO_SHELVES) {
            due.bad("shelf " + shelf, x -> x.taken(shelf, 0));
        }
        due.test(43, "BAD: KIND k (0 .. 7); ahead of -11, -12");
        for (int k : new int[] {-1, 8, LEAST, MOST}) {
            due.badOnAnyShelf("k " + k, (x, shelf) -> x.taken(shelf, k));
        }
        due.test(43, "-11");
        due.unchanged(Laid::furnished, "nothing", x -> x.taken(Laid.NOTHING, 0), LACKS);
        due.unchanged(Laid::furnished, "nothing for KIND 7", x -> x.taken(Laid.NOTHING, 7), LACKS);
        due.test(43, "-12");
        due.unchanged(Laid::furnished, "a row of bytes", x -> x.taken(Laid.BYTES, 0), OTHER);
        due.unchanged(Laid::furnished, "a row of ints", x -> x.taken(Laid.INTS, 7), OTHER);
        due.unchanged(Laid::furnished, "another KIND", x -> x.taken(Laid.BODY, 1), OTHER);
        due.unchanged(Laid::furnished, "a KIND under its own", x -> x.taken(Laid.BODY, 5), OTHER);
        due.unchanged(Laid::furnished, "its own", x -> x.taken(Laid.BODY, 3), 3);
        due.unchanged(Laid::furnished, "one above", x -> x.taken(Laid.BODY, 2), 3);
    }

    private static void takenByKinds() {
        String[] above = {"0", "1 0", "2 0", "3 2 0", "4 1 0", "5 3 2 0", "6 0", "7 6 0"};
        for (int kind = 0; kind <= 7; kind++) {
            due.test(43, "a BODY of KIND k, or under it: KIND " + kind);
            Stylite x = Due.made();
            x.body(0);
            x.body(kind);
            for (int shelf = 0; shelf <= 5; shelf++) {
                x.keep(shelf, 1);
                for (int k = 0; k <= 7; k++) {
                    boolean is = above[kind].indexOf('0' + k) >= 0;
                    due.is("taken for " + k, x.taken(shelf, k), is ? kind : OTHER);
                }
            }
        }
    }

    // ---- 44: count

    private static void countLimits() {
        due.test(44, "0 to 5. BAD");
        for (int what : new int[] {-1, 6, 7, LEAST, MOST}) {
            due.bad("count(" + what + ")", x -> x.count(what));
        }
        // stalls, schools, bytes, changes, bodies, bodies that ran
        int[] counts = {2, 2, 1, 2, 2, 7};
        for (int what = 0; what <= 5; what++) {
            int its = what;
            due.unchanged(Laid::furnished, "count(" + what + ")", x -> x.count(its), counts[what]);
        }
    }

    private static void countCounts() {
        due.test(44, "empty and full");
        Stylite x = Due.made();
        int[] most = {6, 5, 120, 40, 50};
        for (int what = 0; what <= 5; what++) {
            due.is("count(" + what + ") at first", x.count(what), 0);
        }
        for (int i = 0; i < 7; i++) {
            x.stall(1, 1);
            x.school(1);
        }
        for (int i = 0; i < 121; i++) {
            x.feed('m');
        }
        for (int i = 0; i < 41; i++) {
            x.mend(0, 0, i % 2 + 1);
        }
        for (int i = 0; i < 51; i++) {
            x.body(5);
        }
        for (int what = 0; what <= 4; what++) {
            due.is("count(" + what + ") when full", x.count(what), most[what]);
        }
        due.test(44, "3 changes that may be UNDONE");
        x.undo();
        due.is("behind undo()", x.count(3), 39);
        x.redo();
        due.is("behind redo()", x.count(3), 40);
        due.test(44, "5 bodies that ran in the latest act()");
        x.act(0, 3, 1);
        due.is("ten", x.count(5), 10);
        x.act(0, 0, 1);
        due.is("one", x.count(5), 1);
        x.act(51, 0, 1);
        due.is("none", x.count(5), 0);
    }
}
