/** The edges of promises 19 to 27: stalls and schools. Each sentence that names an edge has a test of its own. */
public final class VillageEdgesTest {
    private static final int BAD = -1, NOT = -2, LACKS = -11, OTHER = -12;
    private static final int LEAST = Integer.MIN_VALUE, MOST = Integer.MAX_VALUE;
    private static final int[] NO_COURSES = {-1, 201, LEAST, MOST};
    private static final int[] NO_SCHOOLS = {-1, 2, LEAST, MOST};

    private static final Due due = new Due("VillageEdgesTest");

    public static void main(String[] args) {
        soldLimits();
        soldByLikes();
        soldByCell();
        soldPence();
        placesLimits();
        placesEnd();
        placesCells();
        bestLimits();
        bestOfLikeOnes();
        bestBehindLoud();
        whenLimits();
        whenOf48();
        whenOfLikeOnes();
        verdictLimits();
        verdictCounts();
        verdictEnds();
        clashLimits();
        clashOfThoseThatSay();
        judgeLimits();
        judgeFirst();
        judgeEnds();
        judgeTwelve();
        readLimits();
        readFewest();
        readOfLikeOnes();
        readNot();
        readTwelve();
        drawnLimits();
        drawnNights();
        drawnTalks();
        drawnNumbers();
        due.end();
    }

    // ---- 19: sold

    private static void soldLimits() {
        due.wantsBytes(19, "sold, pence", (x, shelf) -> x.sold(shelf, 1, -1), BAD, LACKS, OTHER);
        due.wantsBytes(19, "sold, of stall 0", (x, shelf) -> x.sold(shelf, 1, 0), BAD, LACKS, OTHER);
        due.test(19, "n hours (0 .. 200)");
        for (int n : NO_COURSES) {
            due.badOnAnyShelf("n " + n, (x, shelf) -> x.sold(shelf, n, 0));
            due.badOnAnyShelf("n " + n + ", pence", (x, shelf) -> x.sold(shelf, n, -1));
        }
        Stylite x = Due.made();
        x.stall(65535, 2);
        x.row(0, 0, 0);
        for (int n : new int[] {0, 1, 199, 200}) {
            due.is("how often in " + n, x.sold(0, n, 0), n);
            due.is("pence in " + n, x.sold(0, n, -1), 2 * n);
        }
        due.test(19, "how often (stall 0 on), pence of all (-1)");
        for (int stall : new int[] {-2, 2, LEAST, MOST}) {
            due.badOnAnyShelf("stall " + stall, (y, shelf) -> y.sold(shelf, 1, stall));
        }
        due.is("the second of one", x.sold(0, 1, 1), BAD);
        Stylite full = Due.made();
        Laid.fullOfStalls(full);
        full.mend(5, 7, 65535);
        full.row(0, 0, 0);
        due.is("the sixth", full.sold(0, 9, 5), 9);
        due.is("a seventh", full.sold(0, 9, 6), BAD);
        Stylite none = Due.made();
        none.row(0, 0, 0);
        due.is("pence of no stalls", none.sold(0, 200, -1), 0);
        due.is("the first of no stalls", none.sold(0, 200, 0), BAD);
        due.test(19, "IN THOUGHT: nothing changes");
        // furnished says 6, 14, 15; its first stall likes all
        due.unchanged(Laid::furnished, "pence", y -> y.sold(Laid.BYTES, 3, -1), 9);
        due.unchanged(Laid::furnished, "how often", y -> y.sold(Laid.BYTES, 3, 0), 3);
        due.unchanged(Laid::furnished, "how often, of the other", y -> y.sold(Laid.BYTES, 3, 1), 0);
    }

    private static void soldByLikes() {
        due.test(19, "if its LIKES have the THING he says (bits 0 .. 65535)");
        for (int thing = 0; thing <= 15; thing++) {
            Stylite x = Due.ruled(Integer.toString(thing));
            x.stall(1 << thing, 1);
            x.stall(65535 - (1 << thing), 1);
            x.row(0, 0, 0);
            due.is("it alone: " + thing, x.sold(0, 3, 0), 3);
            due.is("all but it: " + thing, x.sold(0, 3, 1), 0);
        }
        due.test(19, "with REMARKS");
        Stylite x = Due.ruled("r");
        x.stall(2 + 512, 1);
        Due.bytes(x, 0, 1, 10, 9, -1, 2);
        int[] sales = {0, 1, 1, 2, 2, 2, 2};
        for (int n = 0; n < sales.length; n++) {
            due.is("1 and 9 in " + n, x.sold(0, n, 0), sales[n]);
        }
    }

    private static void soldByCell() {
        due.test(19, "and its CELL is no more than LOUD");
        for (int loud = 0; loud <= 9; loud++) {
            Stylite x = Due.made();
            x.stall(65535, 1);
            x.row(0, 0, 0);
            x.mend(0, 5, loud);
            for (int cell = 0; cell <= 9; cell++) {
                x.mend(0, 9, cell);
                due.is("CELL " + cell + ", LOUD " + loud, x.sold(0, 2, 0), cell <= loud ? 2 : 0);
                due.is("CELL " + cell + ", LOUD " + loud + ": pence", x.sold(0, 2, -1), cell <= loud ? 2 : 0);
            }
        }
    }

    private static void soldPence() {
        due.test(19, "pence of all: PRICE (0 .. 99)");
        Stylite x = Due.made();
        x.row(0, 0, 0);
        for (int i = 0; i < 6; i++) {
            x.stall(65535, 99);
            due.is("the dearest, " + (i + 1), x.sold(0, 200, -1), 200 * 99 * (i + 1));
        }
        x.mend(2, 8, 0);
        due.is("one without a price", x.sold(0, 200, -1), 200 * 99 * 5);
        due.is("it sells", x.sold(0, 200, 2), 200);
        x.mend(3, 7, 0);
        due.is("one that likes nothing", x.sold(0, 200, -1), 200 * 99 * 4);
        x.mend(4, 9, 6);
        due.is("one too far off", x.sold(0, 200, -1), 200 * 99 * 3);
    }

    // ---- 20: places

    private static void placesLimits() {
        due.wantsBytes(20, "places", (x, shelf) -> x.places(shelf, 1), BAD, LACKS, OTHER);
        due.test(20, "n hours (0 .. 200)");
        for (int n : NO_COURSES) {
            due.badOnAnyShelf("n " + n, (x, shelf) -> x.places(shelf, n));
        }
        Stylite x = Due.made();
        x.stall(65535, 2);
        x.row(0, 0, 1);
        for (int n : new int[] {0, 1, 199, 200}) {
            due.is("pence in " + n, x.places(0, n), 2 * n);
        }
        due.test(20, "IN THOUGHT: nothing changes");
        due.unchanged(y -> {
            Laid.furnished(y);
            Due.bytes(y, 0, 0, 1);
        }, "places", y -> y.places(0, 3), 9);
        due.test(20, "what they sell in n hours");
        x = Due.ruled("h+m"); // 6, then 7 and 6, then 8 and 19
        x.stall(64, 5);
        x.stall(8192, 7);
        x.stall(2048, 9);
        Due.bytes(x, 0, 2, 0, 1);
        int[] pence = {0, 5, 12, 21, 21};
        for (int n = 0; n < pence.length; n++) {
            due.is("pence in " + n, x.places(0, n), pence[n]);
        }
        due.test(20, "without REMARKS");
        x = Due.ruled("r");
        x.stall(1, 5);
        x.stall(2, 7);
        Due.bytes(x, 0, 1, 0);
        due.is("the row is none of REMARKS", x.places(0, 3), 15);
    }

    /** Of three stalls that all sell each hour, for 1, 10, 70 pence, in one hour. */
    private static void placed(String call, int pence, long... row) {
        Stylite x = Due.made();
        x.stall(65535, 1);
        x.stall(65535, 10);
        x.stall(65535, 70);
        Due.bytes(x, 0, row);
        due.is(call, x.places(0, 1), pence);
    }

    private static void placesEnd() {
        due.test(20, "by a ROW of bytes (their numbers, in order)");
        placed("all", 81, 0, 1, 2);
        placed("all, the last first", 81, 2, 1, 0);
        due.test(20, "those not in it sell nothing");
        placed("no one", 0);
        placed("one", 10, 1);
        placed("two", 71, 2, 0);
        for (int none : new int[] {-1, 3, 4, 127, -128}) {
            due.test(20, "what is none, ends it: " + none);
            placed("at the first", 0, none, 0, 1);
            placed("behind one", 10, 1, none, 0);
            placed("behind all", 81, 0, 1, 2, none);
        }
        due.test(20, "what was there, ends it");
        placed("at once", 1, 0, 0, 1, 2);
        placed("behind two", 71, 0, 2, 0, 1);
        placed("the one ahead", 71, 0, 2, 2, 1);
        placed("behind all", 81, 0, 2, 1, 1);
        due.test(20, "a ROW without elements; one of 60");
        Stylite x = Due.made();
        x.stall(65535, 1);
        x.row(0, 0, 60);
        due.is("sixty times the first", x.places(0, 9), 9);
    }

    private static void placesCells() {
        due.test(20, "CELLS 0 on, one each");
        for (int loud = 0; loud <= 9; loud++) {
            Stylite x = Due.made();
            for (int i = 0; i < 6; i++) {
                x.stall(65535, 1 << i);
                x.mend(i, 9, 9 - i);
            }
            Due.bytes(x, 0, 5, 4, 3, 2, 1, 0);
            x.mend(0, 5, loud);
            int heard = Math.min(6, loud + 1);
            due.is("LOUD " + loud, x.places(0, 1), 64 - (1 << 6 - heard));
            due.is("its own CELL stays", x.of(0, 9), 9);
        }
    }

    // ---- 21: best

    private static void bestLimits() {
        due.test(21, "n hours (0 .. 200)");
        for (int n : NO_COURSES) {
            due.bad("n " + n, x -> x.best(n, -1));
            due.bad("n " + n + ", k 0", x -> x.best(n, 0));
        }
        Stylite x = Due.made();
        x.stall(65535, 2);
        for (int n : new int[] {0, 1, 199, 200}) {
            due.is("pence in " + n, x.best(n, -1), 2 * n);
        }
        due.test(21, "pence (k -1), the k-th STALL");
        for (int k : new int[] {-2, -3, LEAST}) {
            due.bad("k " + k, y -> y.best(1, k));
        }
        due.is("the first of one", x.best(1, 0), 0);
        due.test(21, "NOT: there are not as many");
        due.is("the second of one", x.best(1, 1), NOT);
        due.is("far beyond", x.best(1, MOST), NOT);
        due.is("the first of none", Due.made().best(1, 0), NOT);
        due.is("pence of none", Due.made().best(200, -1), 0);
        Stylite full = Due.made();
        Laid.fullOfStalls(full);
        due.is("the sixth of six", full.best(1, 5), 5);
        due.is("the seventh of six", full.best(1, 6), NOT);
        due.test(21, "IN THOUGHT: nothing changes");
        due.unchanged(Laid::furnished, "best", y -> y.best(3, -1), 9);
        due.unchanged(Laid::furnished, "its first", y -> y.best(3, 0), 0);
    }

    private static void order(String call, Stylite x, int n, int pence, int... stalls) {
        due.is(call, x.best(n, -1), pence);
        for (int k = 0; k < stalls.length; k++) {
            due.is(call + ", stall " + k, x.best(n, k), stalls[k]);
        }
        due.is(call + ", one more", x.best(n, stalls.length), NOT);
    }

    private static Stylite priced(int... prices) {
        Stylite x = Due.made();
        for (int price : prices) {
            x.stall(65535, price);
        }
        return x;
    }

    private static void bestOfLikeOnes() {
        due.test(21, "of like ones the first by numbers");
        order("all are heard", priced(5, 9, 7, 1, 3, 8), 2, 66, 0, 1, 2, 3, 4, 5);
        order("no hours", priced(5, 9, 7), 0, 0, 0, 1, 2);
        Stylite x = priced(4, 4, 4, 4);
        x.mend(0, 5, 1);
        order("all are alike", x, 1, 8, 0, 1, 2, 3);
        x = priced(1, 4, 4, 2);
        x.mend(0, 5, 0);
        order("the second and the third are alike", x, 1, 4, 1, 0, 2, 3);
        x = priced(0, 0, 3, 0, 0, 0);
        x.mend(0, 5, 1);
        order("one that sells", x, 1, 3, 0, 2, 1, 3, 4, 5);
    }

    private static void bestBehindLoud() {
        due.test(21, "which order of all STALLS (CELLS 0 on) brings most pence");
        int[][] orders = {{1, 0, 2, 3, 4, 5}, {1, 5, 0, 2, 3, 4}, {1, 2, 5, 0, 3, 4}, {0, 1, 2, 5, 3, 4}, {0, 1, 2, 4, 5, 3},
            {0, 1, 2, 3, 4, 5}};
        int[] pence = {9, 17, 24, 29, 32, 33};
        for (int loud = 0; loud <= 5; loud++) {
            Stylite x = priced(5, 9, 7, 1, 3, 8);
            x.mend(0, 5, loud);
            x.mend(1, 9, 9);
            order("LOUD " + loud, x, 1, pence[loud], orders[loud]);
            due.is("its own CELL stays", x.of(1, 9), 9);
        }
        due.test(21, "by what they sell in n hours without REMARKS");
        Stylite x = Due.ruled("h"); // HOUR is 6 now
        x.stall(64, 9);
        x.stall(128 + 256, 5);
        x.mend(0, 5, 0);
        order("in one hour", x, 1, 9, 0, 1);
        order("in two hours", x, 2, 9, 0, 1);
        order("in three hours", x, 3, 10, 1, 0);
    }

    // ---- 22: when

    private static void whenLimits() {
        due.test(22, "a STALL: BAD");
        for (int stall : new int[] {-1, 2, LEAST, MOST}) {
            due.bad("stall " + stall, x -> x.when(stall, 1, 0));
        }
        Stylite full = Due.made();
        Laid.fullOfStalls(full);
        full.mend(5, 7, 65535);
        due.is("the sixth", full.when(5, 24, 1), 24);
        due.is("a seventh", full.when(6, 24, 1), BAD);
        due.is("the first of none", Due.made().when(0, 1, 0), BAD);
        due.test(22, "w hours (1 .. 24)");
        for (int w : new int[] {0, 25, -1, LEAST, MOST}) {
            due.bad("w " + w, x -> x.when(0, w, 0));
            due.bad("w " + w + ", how often", x -> x.when(0, w, 1));
        }
        due.test(22, "its first hour (what 0), how often (1)");
        for (int what : new int[] {-1, 2, LEAST, MOST}) {
            due.bad("what " + what, x -> x.when(0, 1, what));
        }
        due.test(22, "IN THOUGHT: nothing changes");
        due.unchanged(Laid::furnished, "its first hour", x -> x.when(0, 5, 0), 0);
        due.unchanged(Laid::furnished, "how often", x -> x.when(0, 5, 1), 5);
    }

    /** At five o'clock he says one more than MOOD is: 1, then 2, then 4; else 0. The stall likes one of these. */
    private static Stylite sayingAtFive(int hour, int thing) {
        Stylite x = Due.ruled("h=5?m+1;0");
        x.mend(0, 3, hour);
        x.stall(1 << thing, 1);
        return x;
    }

    private static void whenOf48() {
        due.test(22, "out of the next 48: the last of them");
        for (int w = 1; w <= 24; w++) {
            Stylite x = sayingAtFive(6, 2); // behind 47 hours
            due.is("w " + w, x.when(0, w, 0), 48 - w);
            due.is("w " + w + ", how often", x.when(0, w, 1), 1);
        }
        due.test(22, "out of the next 48: one behind them");
        for (int w = 1; w <= 24; w++) {
            Stylite x = sayingAtFive(5, 4); // behind 48 hours
            due.is("w " + w, x.when(0, w, 0), 0);
            due.is("w " + w + ", how often", x.when(0, w, 1), 0);
        }
        due.test(22, "out of the next 48: the first of them");
        for (int w = 1; w <= 24; w++) {
            Stylite x = sayingAtFive(5, 1);
            due.is("w " + w, x.when(0, w, 0), 0);
            due.is("w " + w + ", how often", x.when(0, w, 1), 1);
        }
    }

    private static void whenOfLikeOnes() {
        due.test(22, "(of like ones the first)");
        Stylite x = Due.ruled("h"); // HOUR is 6 now: 0 comes behind 10, 18, 34, 42 hours
        x.stall(1, 1);
        int[][] rows = {{1, 10, 1}, {2, 9, 1}, {8, 3, 1}, {9, 10, 2}, {10, 9, 2}, {16, 3, 2}, {17, 2, 2}, {19, 0, 2}, {24, 0, 2}};
        for (int[] one : rows) {
            due.is("w " + one[0], x.when(0, one[0], 0), one[1]);
            due.is("w " + one[0] + ", how often", x.when(0, one[0], 1), one[2]);
        }
        x.mend(0, 7, 0);
        due.is("one that never sells", x.when(0, 7, 0), 0);
        due.is("one that never sells, how often", x.when(0, 7, 1), 0);
        x.mend(0, 7, 65535);
        due.is("one that always sells", x.when(0, 7, 0), 0);
        due.is("one that always sells, how often", x.when(0, 7, 1), 7);
        due.test(22, "its CELL is no more than LOUD");
        x.mend(0, 9, 5);
        due.is("CELL 5, LOUD 5", x.when(0, 24, 1), 24);
        x.mend(0, 9, 6);
        due.is("CELL 6, LOUD 5", x.when(0, 24, 1), 0);
        due.is("CELL 6, LOUD 5: its first hour", x.when(0, 24, 0), 0);
    }

    // ---- 23: verdict

    /** Schools that take as yes: 1 and 2; all but these; all; none; 0 and 15. */
    private static Stylite schooled(long... phrase) {
        Stylite x = Due.made();
        x.school(6);
        x.school(65529);
        x.school(65535);
        x.school(0);
        x.school(32769);
        Due.bytes(x, 0, phrase);
        return x;
    }

    private static void verdictLimits() {
        due.wantsBytes(23, "verdict", (x, shelf) -> x.verdict(shelf, 0), BAD, LACKS, OTHER);
        due.test(23, "a SCHOOL: BAD");
        for (int school : NO_SCHOOLS) {
            due.badOnAnyShelf("school " + school, (x, shelf) -> x.verdict(shelf, school));
        }
        due.is("the fifth", schooled(0, 15).verdict(0, 4), 1);
        due.is("a sixth", schooled(0, 15).verdict(0, 5), BAD);
        due.test(23, "nothing changes");
        due.unchanged(Laid::furnished, "yes", x -> x.verdict(Laid.BYTES, 0), 1);
        due.unchanged(Laid::furnished, "no", x -> x.verdict(Laid.BYTES, 1), 0);
        due.unchanged(x -> {
            Laid.furnished(x);
            Due.bytes(x, 0, 1, 3);
        }, "nothing", x -> x.verdict(0, 0), NOT);
    }

    private static void verdictCounts() {
        due.test(23, "yes, if more of its THINGS are yes than not");
        due.is("one", schooled(1).verdict(0, 0), 1);
        due.is("two of three", schooled(1, 3, 2).verdict(0, 0), 1);
        due.is("one twice", schooled(1, 3, 1).verdict(0, 0), 1);
        due.is("0 and 15", schooled(0, 1, 15).verdict(0, 4), 1);
        due.test(23, "no, if fewer");
        due.is("none", schooled(3).verdict(0, 0), 0);
        due.is("one of three", schooled(1, 3, 4).verdict(0, 0), 0);
        due.is("none of them", schooled(1, 2, 3).verdict(0, 3), 0);
        due.test(23, "alike: nothing");
        due.is("one of two", schooled(1, 3).verdict(0, 0), NOT);
        due.is("two of four", schooled(3, 1, 2, 4).verdict(0, 0), NOT);
        due.is("none of none", schooled().verdict(0, 2), NOT);
        due.test(23, "of 60 THINGS");
        for (int yes = 29; yes <= 31; yes++) {
            Stylite x = schooled();
            x.row(0, 0, 60);
            for (int i = 60 - yes; i < 60; i++) {
                x.put(0, i, 2);
            }
            due.is(yes + " yes", x.verdict(0, 0), yes == 30 ? NOT : yes > 30 ? 1 : 0);
        }
    }

    private static void verdictEnds() {
        for (int none : new int[] {16, 17, 18, 127, -1, -128}) {
            due.test(23, "it ends with what is none: " + none);
            due.is("behind one", schooled(1, none, 3, 3).verdict(0, 0), 1);
            due.is("at once", schooled(none, 1).verdict(0, 0), NOT);
        }
        due.test(23, "THINGS 0 .. 15");
        due.is("0", schooled(0).verdict(0, 4), 1);
        due.is("15", schooled(15).verdict(0, 4), 1);
        due.is("14", schooled(14).verdict(0, 4), 0);
    }

    // ---- 24: clash

    private static void clashLimits() {
        due.wantsBytes(24, "clash", (x, shelf) -> x.clash(shelf, 0), BAD, LACKS, OTHER);
        due.test(24, "a told one: BAD");
        for (int school : NO_SCHOOLS) {
            due.badOnAnyShelf("school " + school, (x, shelf) -> x.clash(shelf, school));
        }
        due.is("the fifth", schooled(0, 15).clash(0, 4), 1 + 8);
        due.is("a sixth", schooled(0, 15).clash(0, 5), BAD);
        due.test(24, "nothing changes");
        due.unchanged(Laid::furnished, "clash", x -> x.clash(Laid.BYTES, 0), 2);
        due.unchanged(Laid::furnished, "clash", x -> x.clash(Laid.BYTES, 1), 1);
    }

    private static void clashOfThoseThatSay() {
        due.test(24, "which SCHOOLS (bits) say another thing than a told one");
        int[] with = {2 + 8 + 16, 1 + 4, 2 + 8 + 16, 1 + 4, 1 + 4};
        for (int school = 0; school < 5; school++) {
            due.is("1 by " + school, schooled(1).clash(0, school), with[school]);
        }
        due.is("one alone", oneSchool(1).clash(0, 0), 0);
        due.test(24, "(yes and no alone)");
        int[] alike = {0, 0, 8, 4, 0}; // 1, 0: by 0, 1 and 4 nothing is said
        for (int school = 0; school < 5; school++) {
            due.is("1 and 0 by " + school, schooled(1, 0).clash(0, school), alike[school]);
            due.is("no things by " + school, schooled().clash(0, school), 0);
        }
        due.test(24, "a PHRASE ends with what is none");
        due.is("1, 16, 3, 3", schooled(1, 16, 3, 3).clash(0, 0), 2 + 8 + 16);
        due.is("1, -1, 3, 3", schooled(1, -1, 3, 3).clash(0, 0), 2 + 8 + 16);
    }

    private static Stylite oneSchool(long... phrase) {
        Stylite x = Due.made();
        x.school(6);
        Due.bytes(x, 0, phrase);
        return x;
    }

    // ---- 25: judge

    private static void judgeLimits() {
        due.wantsBytes(25, "judge", (x, shelf) -> x.judge(shelf, 0), BAD, LACKS, OTHER);
        due.test(25, "a SCHOOL: BAD");
        for (int school : NO_SCHOOLS) {
            due.badOnAnyShelf("school " + school, (x, shelf) -> x.judge(shelf, school));
        }
        due.is("the fifth", schooled(0, 16).judge(0, 4), NOT);
        due.is("a sixth", schooled(0, 16).judge(0, 5), BAD);
        due.test(25, "nothing changes");
        due.unchanged(x -> {
            Laid.furnished(x);
            Due.bytes(x, 0, 1, 16, 1, 17);
        }, "judge", x -> x.judge(0, 0), 1);
        due.unchanged(Laid::furnished, "judge of no verdicts", x -> x.judge(Laid.BYTES, 0), NOT);
    }

    /** Of the school that takes 1 and 2 as yes. */
    private static void judged(int first, long... row) {
        Stylite x = oneSchool(row);
        due.is("judge of " + java.util.Arrays.toString(row), x.judge(0, 0), first);
    }

    private static void judgeFirst() {
        due.test(25, "by turns a PHRASE's THINGS, then 16 (yes) or 17 (no)");
        judged(NOT, 1, 16);
        judged(NOT, 3, 17);
        judged(0, 1, 17);
        judged(0, 3, 16);
        judged(NOT, 1, 3, 2, 16, 3, 1, 4, 17);
        due.test(25, "the first a SCHOOL does not say so");
        judged(1, 1, 16, 1, 17);
        judged(2, 1, 16, 3, 17, 3, 16, 3, 17);
        judged(1, 1, 16, 3, 16, 3, 16);
        judged(0, 3, 16, 1, 17);
        due.test(25, "one that says nothing does not say so");
        judged(0, 1, 3, 16);
        judged(0, 1, 3, 17);
        judged(0, 16);
        judged(0, 17);
        judged(1, 1, 16, 16);
        judged(1, 3, 17, 17);
    }

    private static void judgeEnds() {
        due.test(25, "NOT");
        judged(NOT);
        due.test(25, "a PHRASE without its verdict is none");
        judged(NOT, 3);
        judged(NOT, 3, 1);
        judged(NOT, 1, 16, 3);
        for (int none : new int[] {18, 19, 127, -1, -128}) {
            due.test(25, "it ends with what is none of all: " + none);
            judged(NOT, none, 3, 16);
            judged(NOT, 1, 16, none, 3, 16);
            judged(NOT, 1, 16, 3, none, 16);
            judged(0, 3, 16, none);
        }
        due.test(25, "a ROW of 60");
        long[] row = new long[60];
        for (int i = 0; i < 59; i++) {
            row[i] = i < 30 ? 1 : 3;
        }
        row[59] = 16;
        judged(NOT, row);
        row[59] = 17;
        judged(0, row);
        row[0] = 3;
        judged(NOT, row);
    }

    private static long[] thirteen(int wrong) {
        long[] row = new long[26];
        for (int i = 0; i < 13; i++) {
            row[2 * i] = 1;
            row[2 * i + 1] = i == wrong ? 17 : 16;
        }
        return row;
    }

    private static void judgeTwelve() {
        due.test(25, "12 at most");
        judged(11, thirteen(11));
        judged(NOT, thirteen(12));
        judged(10, thirteen(10));
        judged(0, thirteen(0));
        long[] row = thirteen(13);
        row[24] = 18;
        judged(NOT, row);
    }

    // ---- 26: read

    private static void readLimits() {
        due.wantsBytes(26, "read, how many", (x, shelf) -> x.read(shelf, 0), BAD, LACKS, OTHER);
        due.wantsBytes(26, "read, which", (x, shelf) -> x.read(shelf, 1), BAD, LACKS, OTHER);
        due.test(26, "how many (what 0), which (1)");
        for (int what : new int[] {-1, 2, LEAST, MOST}) {
            due.badOnAnyShelf("what " + what, (x, shelf) -> x.read(shelf, what));
        }
        due.test(26, "nothing changes");
        due.unchanged(Laid::furnished, "read of no verdicts", x -> x.read(Laid.BYTES, 0), 0);
        due.unchanged(x -> {
            Laid.furnished(x);
            Due.bytes(x, 0, 1, 16, 2, 17);
        }, "which", x -> x.read(0, 1), 2);
    }

    private static void read(int many, int which, long... row) {
        Stylite x = Due.made();
        Due.bytes(x, 0, row);
        String call = "read of " + java.util.Arrays.toString(row);
        due.is(call + ", how many", x.read(0, 0), many);
        due.is(call + ", which", x.read(0, 1), which);
    }

    private static void readFewest() {
        due.test(26, "the fewest THINGS that, taken as yes, make all so");
        read(0, 0);
        read(0, 0, 3, 17);
        read(1, 8, 3, 16);
        read(1, 1, 0, 16);
        read(1, 32768, 15, 16);
        read(2, 3, 0, 1, 16);
        read(2, 32769, 0, 15, 16);
        read(2, 12, 2, 3, 4, 16);
        read(1, 8, 3, 15, 3, 16);
        read(1, 32768, 3, 15, 15, 16);
        read(2, 6, 1, 2, 3, 16, 3, 17);
        read(3, 56, 1, 2, 3, 4, 5, 16, 1, 2, 17);
        read(9, 511, 0, 1, 2, 3, 4, 5, 6, 7, 8, 9, 10, 11, 12, 13, 14, 15, 16);
        read(9, 65535 - 127, 0, 1, 2, 3, 4, 5, 6, 7, 8, 9, 10, 11, 12, 13, 14, 15, 16, 0, 17, 1, 17, 2, 17, 3, 17, 4, 17, 5, 17,
            6, 17);
        due.test(26, "no, if fewer than half are yes");
        read(1, 2, 1, 16, 1, 2, 3, 17);
        read(2, 6, 1, 16, 2, 16, 1, 2, 3, 4, 5, 17);
        read(2, 6, 1, 16, 2, 16, 1, 3, 2, 5, 4, 17);
        read(3, 14, 1, 16, 1, 2, 3, 4, 16);
        due.test(26, "as many as all");
        read(6, 63, 0, 1, 16, 2, 3, 16, 4, 5, 16);
        read(16, 65535, 0, 1, 16, 2, 3, 16, 4, 5, 16, 6, 7, 16, 8, 9, 16, 10, 11, 16, 12, 13, 16, 14, 15, 16);
    }

    private static void readOfLikeOnes() {
        due.test(26, "(bits; of like ones the least)");
        read(1, 1, 0, 0, 15, 15, 0, 16);
        read(2, 3, 0, 1, 2, 16);
        read(2, 5, 0, 1, 2, 16, 1, 17);
        read(2, 49152, 13, 14, 15, 16, 13, 17);
        read(1, 4, 2, 2, 3, 3, 2, 3, 2, 16);
        read(2, 3, 15, 1, 0, 16);
        read(2, 9, 0, 3, 9, 16, 3, 9, 0, 16);
    }

    private static void readNot() {
        due.test(26, "NOT");
        read(NOT, NOT, 3, 16, 3, 17);
        read(NOT, NOT, 16);
        read(NOT, NOT, 17);
        read(NOT, NOT, 3, 16, 17);
        read(NOT, NOT, 1, 2, 16, 2, 17);
        read(NOT, NOT, 1, 2, 16, 1, 2, 3, 4, 17);
        due.test(26, "it ends with what is none of all; one without its verdict is none");
        read(1, 8, 3, 16, 18, 3, 17);
        read(1, 8, 3, 16, -1, 3, 17);
        read(1, 8, 3, 16, 3, 127, 17);
        read(1, 8, 3, 16, 4);
        read(0, 0, 18, 3, 16);
        read(0, 0, 3);
    }

    private static void readTwelve() {
        due.test(26, "12 at most");
        long[] row = new long[26];
        for (int i = 0; i < 13; i++) {
            row[2 * i] = i;
            row[2 * i + 1] = 16;
        }
        read(12, 4095, row);
        row[24] = 0;
        row[25] = 17;
        read(12, 4095, row);
        row[23] = 17;
        read(11, 2047, row);
        row[22] = 0;
        read(NOT, NOT, row);
    }

    // ---- 27: drawn

    private static void drawnLimits() {
        due.test(27, "n nights (1 .. 30) of m hours (1 .. 24): 100 n and m");
        for (int nm : new int[] {0, 1, 24, 100, 125, 199, 3000, 3025, 3101, 3124, -1, -101, -3024, LEAST, MOST}) {
            due.bad("nm " + nm, x -> x.drawn(1, nm, 0, 0));
            due.bad("nm " + nm + ", how often", x -> x.drawn(1, nm, 0, 1));
        }
        Stylite x = Due.ruled("15");
        int[][] lumps = {{101, 1}, {124, 24}, {3001, 30}, {3024, 720}, {1512, 180}};
        for (int[] one : lumps) {
            due.is("LUMPS of " + one[0], x.drawn(1, one[0], 0, 0), one[1]);
            due.is("how often 15 in " + one[0], x.drawn(1, one[0], 1500, 1), one[1]);
        }
        due.test(27, "TALKS (0 .. 12, told), a THING (0 .. 15): 100 times the THING, and TALKS");
        for (int tt : new int[] {13, 99, 113, 1513, 1600, 1601, 1612, -1, -88, -100, LEAST, MOST}) {
            due.bad("tt " + tt, y -> y.drawn(1, 101, tt, 0));
            due.bad("tt " + tt + ", how often", y -> y.drawn(1, 101, tt, 1));
        }
        due.is("THING 15, TALKS 12", x.drawn(1, 101, 1512, 1), 1);
        due.is("THING 14, TALKS 12", x.drawn(1, 101, 1412, 1), 0);
        due.is("THING 0, TALKS 0", Due.ruled("0").drawn(1, 101, 0, 1), 1);
        due.test(27, "LUMPS (what 0), how often (1)");
        for (int what : new int[] {-1, 2, LEAST, MOST}) {
            due.bad("what " + what, y -> y.drawn(1, 101, 0, what));
        }
        due.test(27, "IN THOUGHT: nothing changes");
        // furnished: without TALKS he says 5, 10, 4 and 8
        due.unchanged(Laid::furnished, "how often", y -> y.drawn(1, 304, 1000, 1), 3);
        due.unchanged(Laid::furnished, "LUMPS", y -> y.drawn(1, 304, 0, 0), 0);
    }

    private static void drawnNights() {
        due.test(27, "nights from now");
        Stylite x = Due.ruled("h"); // HOUR is 6 now
        due.is("6 in each", x.drawn(5, 3001, 600, 1), 30);
        due.is("7 not yet", x.drawn(5, 3001, 700, 1), 0);
        due.is("7 in each", x.drawn(5, 3002, 700, 1), 30);
        due.is("15 is a lump", x.drawn(5, 310, 0, 0), 3);
        due.is("15 not yet", x.drawn(5, 309, 0, 0), 0);
        due.is("23 is 7, too", x.drawn(5, 218, 700, 1), 4);
        due.test(27, "LUMPS of all: by LAST and HUNGER, too");
        x = Due.ruled("0"); // HUNGER is TEMPER, 7, in the eighth hour
        due.is("7 hours", x.drawn(5, 307, 0, 0), 0);
        due.is("8 hours", x.drawn(5, 308, 0, 0), 3);
        due.is("10 hours", x.drawn(5, 310, 0, 0), 9);
        due.is("how often 0", x.drawn(5, 310, 0, 1), 30);
        due.is("how often 15", x.drawn(5, 310, 1500, 1), 0);
    }

    /** The SEED ahead of a z. */
    private static int seedOf(int z) {
        int inverse = 1;
        for (int i = 0; i < 5; i++) {
            inverse *= 2 - 1103515245 * inverse;
        }
        return (z - 12345) * inverse;
    }

    private static void drawnTalks() {
        Stylite x = Due.ruled("r");
        for (int draw = 0; draw < 12; draw++) {
            due.test(27, "if (z >>> 16) % 12 is below TALKS: " + draw);
            // (z >>> 8) % 10 is 7
            int low = 0;
            while ((draw * 256 + low) % 10 != 7) {
                low++;
            }
            int seed = seedOf((draw << 16) + (low << 8));
            due.is("TALKS " + draw + ": none", x.drawn(seed, 101, draw, 1), 1);
            due.is("TALKS " + (draw + 1) + ": 7", x.drawn(seed, 101, 700 + draw + 1, 1), 1);
        }
        due.test(27, ">>> of a z below 0");
        due.is("65535 % 12 is 3: none", x.drawn(seedOf(-1), 101, 3, 1), 1);
        due.is("65535 % 12 is 3: 16777215 % 10", x.drawn(seedOf(-1), 101, 504, 1), 1);
        due.is("32768 % 12 is 8: none", x.drawn(seedOf(LEAST), 101, 8, 1), 1);
        due.is("32768 % 12 is 8: 8388608 % 10", x.drawn(seedOf(LEAST), 101, 809, 1), 1);
        due.test(27, "the REMARK is (z >>> 8) % 10");
        for (int remark = 0; remark <= 9; remark++) {
            due.is("REMARK " + remark, x.drawn(seedOf(remark << 8), 101, remark * 100 + 1, 1), 1);
        }
    }

    private static void drawnNumbers() {
        due.test(27, "z = z * 1103515245 + 12345 (an int; SEED at first) ahead of each hour");
        for (int seed : new int[] {0, 1, -1, LEAST, MOST, 12345, 987654321}) {
            for (int talks : new int[] {0, 1, 6, 11, 12}) {
                Stylite x = Due.ruled("r");
                for (int thing = 0; thing <= 15; thing++) {
                    String call = "SEED " + seed + ", TALKS " + talks + ", THING " + thing;
                    int tt = thing * 100 + talks;
                    due.is(call, x.drawn(seed, 3024, tt, 1), Laid.drawnRemarks(seed, 720, talks)[thing]);
                    due.is(call + ", one night", x.drawn(seed, 103, tt, 1), Laid.drawnRemarks(seed, 3, talks)[thing]);
                    due.is(call + ", two", x.drawn(seed, 202, tt, 1), Laid.drawnRemarks(seed, 4, talks)[thing]);
                }
            }
        }
    }
}
