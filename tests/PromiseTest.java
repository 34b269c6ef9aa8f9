/** Each promise by itself: ordinary calls, the edges that the document names, wrong calls; answers worked out by hand. */
public final class PromiseTest {
    private static final int BAD = -1, NOT = -2, FULL = -3, STATE = -5;
    private static final long NONE = Long.MIN_VALUE;
    private static final int LEAST = Integer.MIN_VALUE, MOST = Integer.MAX_VALUE;

    private static final Due due = new Due("PromiseTest");

    public static void main(String[] args) {
        newObject();
        stallCalls();
        stallsCalls();
        schoolCalls();
        mendCalls();
        ofCalls();
        feedCalls();
        lawCalls();
        thingCalls();
        hoursCalls();
        oftenCalls();
        roundCalls();
        makeCalls();
        reciteCalls();
        waysToCalls();
        mostCalls();
        quietCalls();
        tellsMostCalls();
        soldCalls();
        placesCalls();
        bestCalls();
        whenCalls();
        verdictCalls();
        clashCalls();
        judgeCalls();
        readCalls();
        drawnCalls();
        hourCalls();
        fedCalls();
        ledCalls();
        imageCalls();
        backCalls();
        undoCalls();
        redoCalls();
        bodyCalls();
        actCalls();
        traceCalls();
        keepCalls();
        rowCalls();
        putCalls();
        elementCalls();
        shiftCalls();
        takenCalls();
        countCalls();
        due.end();
    }

    /** Ruled, with two stalls, two schools, a change, a body acted, a row of bytes on shelf 0, ints on 1, a body on 2. */
    private static Stylite furnished(String law) {
        Stylite x = Due.ruled(law);
        x.stall(65535, 3);
        x.stall(2, 5);
        x.school(2);
        x.school(65532);
        x.mend(1, 9, 4);
        x.body(0);
        x.body(3);
        x.act(0, 3, 1);
        Due.bytes(x, 0, 1, 2, 3);
        Due.lay(x, 1, 2, 7, 8, 9);
        x.keep(2, 1);
        x.feed('m');
        return x;
    }

    private static void newObject() {
        due.promise(1);
        Stylite x = Due.made();
        int[] first = {0, 0, 0, 6, 1, 5, 7, BAD, BAD, BAD, BAD, BAD, BAD};
        for (int what = 0; what < first.length; what++) {
            due.is("of(0, " + what + ")", x.of(0, what), first[what]);
        }
        for (int what = 0; what < 5; what++) {
            due.is("count(" + what + ")", x.count(what), 0);
            due.is("led(" + what + ")", x.led(what), 0);
        }
        due.is("count(5)", x.count(5), 0);
        due.is("back()", x.back(), STATE);
        due.is("undo()", x.undo(), STATE);
        due.is("redo()", x.redo(), STATE);
        due.is("trace(0)", x.trace(0), BAD);
        for (int shelf = 0; shelf < 6; shelf++) {
            due.is("taken(" + shelf + ", 0)", x.taken(shelf, 0), -11);
        }
        for (int remark = 0; remark < 10; remark++) {
            due.is("thing(" + remark + ")", x.thing(remark), 3 * remark % 16);
        }
        Stylite other = Due.made();
        other.hour(5);
        other.stall(1, 1);
        due.is("count(0) beside another", x.count(0), 0);
        due.is("of(0, 3) beside another", x.of(0, 3), 6);
        due.is("BAD", StyliteOverheard.BAD, -1);
        due.is("NOT", StyliteOverheard.NOT, -2);
        due.is("FULL", StyliteOverheard.FULL, -3);
        due.is("STATE", StyliteOverheard.STATE, -5);
        due.is("VOID", StyliteOverheard.VOID, -2000000000);
    }

    private static void stallCalls() {
        due.promise(2);
        Stylite x = Due.made();
        due.is("stall(0, 0)", x.stall(0, 0), 0);
        due.is("stall(65535, 99)", x.stall(65535, 99), 1);
        String before = Probe.seen(x);
        due.is("stall(-1, 0)", x.stall(-1, 0), BAD);
        due.is("stall(65536, 0)", x.stall(65536, 0), BAD);
        due.is("stall(0, -1)", x.stall(0, -1), BAD);
        due.is("stall(0, 100)", x.stall(0, 100), BAD);
        due.is("stall(least, least)", x.stall(LEAST, LEAST), BAD);
        due.same("a refused stall", before, Probe.seen(x));
        for (int i = 2; i < 6; i++) {
            due.is("stall(" + i + ", 7)", x.stall(i, 7), i);
        }
        due.is("LIKES", x.of(1, 7), 65535);
        due.is("PRICE", x.of(1, 8), 99);
        due.is("CELL", x.of(1, 9), 0);
        due.is("sold", x.of(1, 11), 0);
        before = Probe.seen(x);
        due.is("a seventh stall", x.stall(1, 1), FULL);
        due.is("a seventh wrong stall", x.stall(-1, 1), BAD);
        due.same("a stall too many", before, Probe.seen(x));
        due.is("changes", x.count(3), 0);
    }

    private static void stallsCalls() {
        due.promise(3);
        Stylite x = Due.made();
        Due.lay(x, 0, 2, 9, 65535, 99, 9, 0, 0, 0, 5);
        String before = Probe.seen(x);
        due.is("i below 0", x.stalls(0, -1, 1), 0);
        due.is("i least", x.stalls(0, LEAST, 1), 0);
        due.is("i at the end", x.stalls(0, 8, 1), 0);
        due.is("i beyond the end", x.stalls(0, 9, 6), 0);
        due.is("i greatest", x.stalls(0, MOST, 6), 0);
        due.is("nothing there", x.stalls(1, 0, 1), 0);
        due.is("shelf -1", x.stalls(-1, 0, 1), BAD);
        due.is("shelf 6", x.stalls(6, 0, 1), BAD);
        due.is("n 0", x.stalls(0, 1, 0), BAD);
        due.is("n 7", x.stalls(0, 1, 7), BAD);
        due.is("n 0 of nothing", x.stalls(1, 0, 0), BAD);
        due.same("stalls of none", before, Probe.seen(x));
        Due.lay(x, 1, 0, 1, 1, 1);
        Due.lay(x, 2, 3, 1, 1, 1);
        x.body(0);
        x.keep(3, 0);
        due.is("a row of bytes", x.stalls(1, 0, 1), -12);
        due.is("a row of bytes below 0", x.stalls(1, -1, 1), -12);
        due.is("a row of longs", x.stalls(2, 0, 1), -12);
        due.is("a body", x.stalls(3, 0, 1), -12);
        due.is("two, the row ends within the third", x.stalls(0, 1, 6), 2);
        due.is("LIKES 0", x.of(0, 7), 65535);
        due.is("PRICE 0", x.of(0, 8), 99);
        due.is("CELL 0", x.of(0, 9), 9);
        due.is("LIKES 1", x.of(1, 7), 0);
        due.is("changes", x.count(3), 0);
        long[][] wrong = {{-1, 0, 0}, {65536, 0, 0}, {0, -1, 0}, {0, 100, 0}, {0, 0, -1}, {0, 0, 10}};
        for (long[] three : wrong) {
            Due.lay(x, 0, 2, three);
            due.is("a stall not as it may be", x.stalls(0, 0, 1), 0);
        }
        Due.lay(x, 0, 2, 1, 2, 3, 4, 5, 10, 7, 8, 9);
        due.is("the second not as it may be", x.stalls(0, 0, 3), 1);
        due.is("the last three alone", x.stalls(0, 6, 1), 1);
        due.is("LIKES 3", x.of(3, 7), 7);
        x.row(0, 2, 60);
        due.is("until full", x.stalls(0, 0, 6), 2);
        due.is("when full", x.stalls(0, 0, 6), 0);
        due.is("count", x.count(0), 6);
        x = Due.made();
        x.row(0, 2, 60);
        due.is("up to the row's end", x.stalls(0, 57, 6), 1);
        due.is("n alone", x.stalls(0, 0, 2), 2);
        due.is("count", x.count(0), 3);
    }

    private static void schoolCalls() {
        due.promise(4);
        Stylite x = Due.made();
        due.is("school(0)", x.school(0), 0);
        due.is("school(65535)", x.school(65535), 1);
        due.is("school(-1)", x.school(-1), BAD);
        due.is("school(65536)", x.school(65536), BAD);
        for (int i = 2; i < 5; i++) {
            due.is("school " + i, x.school(i), i);
        }
        due.is("READS", x.of(1, 10), 65535);
        String before = Probe.seen(x);
        due.is("a sixth", x.school(1), FULL);
        due.is("a wrong sixth", x.school(65536), BAD);
        due.same("a school too many", before, Probe.seen(x));
    }

    private static void mendCalls() {
        due.promise(5);
        int[] greatest = {15, 9, 15, 23, 3, 9, 9, 65535, 99, 9, 65535};
        int[] first = {0, 0, 0, 6, 1, 5, 7, 3, 4, 0, 5};
        for (int what = 0; what <= 10; what++) {
            Stylite x = Due.made();
            x.stall(3, 4);
            x.school(5);
            String before = Probe.seen(x);
            due.is(what + " below 0", x.mend(0, what, -1), BAD);
            due.is(what + " too great", x.mend(0, what, greatest[what] + 1), BAD);
            due.is(what + " of another", x.mend(1, what, 0), BAD);
            due.is(what + " of -1", x.mend(-1, what, 0), BAD);
            due.is(what + " of the greatest", x.mend(MOST, what, 0), BAD);
            due.same("a refused mend", before, Probe.seen(x));
            due.is(what + " to its greatest", x.mend(0, what, greatest[what]), first[what]);
            due.is(what + " by of()", x.of(0, what), greatest[what]);
            due.is(what + " to 0", x.mend(0, what, 0), greatest[what]);
            due.is(what + " by of()", x.of(0, what), 0);
            due.is(what + " to 0 again", x.mend(0, what, 0), 0);
            due.is("changes", x.count(3), 2);
        }
        Stylite x = Due.made();
        x.stall(1, 1);
        due.is("what 11", x.mend(0, 11, 0), BAD);
        due.is("what -1", x.mend(0, -1, 0), BAD);
        due.is("what greatest", x.mend(0, MOST, 0), BAD);
        due.is("a school that is not", x.mend(0, 10, 0), BAD);
        x.stall(2, 2);
        due.is("LIKES of stall 1", x.mend(1, 7, 9), 2);
        due.is("LIKES of stall 0", x.of(0, 7), 1);
        due.is("PRICE of stall 1", x.of(1, 8), 2);
    }

    private static void ofCalls() {
        due.promise(6);
        Stylite x = Due.ruled("r");
        due.is("no stall", x.of(0, 7), BAD);
        due.is("no stall sold", x.of(0, 11), BAD);
        due.is("no school", x.of(0, 10), BAD);
        x.stall(2, 4);
        x.stall(4, 4);
        x.school(9);
        x.hour(1);
        x.hour(1);
        x.hour(2);
        due.is("MOOD", x.of(0, 0), 8);
        due.is("HUNGER", x.of(0, 1), 3);
        due.is("LAST", x.of(0, 2), 2);
        due.is("HOUR", x.of(0, 3), 9);
        due.is("sold by 0", x.of(0, 11), 2);
        due.is("sold by 1", x.of(1, 11), 1);
        due.is("sold by 2", x.of(2, 11), BAD);
        due.is("sold by -1", x.of(-1, 11), BAD);
        due.is("LIKES of 1", x.of(1, 7), 4);
        due.is("READS of 0", x.of(0, 10), 9);
        due.is("READS of 1", x.of(1, 10), BAD);
        due.is("MOOD of 1", x.of(1, 0), BAD);
        due.is("TEMPER of -1", x.of(-1, 6), BAD);
        due.is("what 12", x.of(0, 12), BAD);
        due.is("what -1", x.of(0, -1), BAD);
    }

    private static void feedCalls() {
        due.promise(7);
        Stylite x = Due.made();
        due.is("feed(-1)", x.feed(-1), BAD);
        due.is("feed(256)", x.feed(256), BAD);
        due.is("feed(0)", x.feed(0), 1);
        due.is("feed(255)", x.feed(255), 2);
        x.law();
        for (int i = 1; i <= 120; i++) {
            due.is("byte " + i, x.feed(i % 2 == 1 || i == 120 ? '1' : '+'), i);
        }
        due.is("byte 121", x.feed('m'), FULL);
        due.is("a wrong byte 121", x.feed(256), BAD);
        due.is("count", x.count(2), 120);
        due.is("law() of 120 bytes", x.law(), 1);
        due.is("59 ones and 11", x.thing(0), 59 + 11 & 15);
    }

    private static void fault(String text, int answer) {
        Stylite x = Due.ruled("7");
        due.is("law of " + text, Due.law(x, text), answer);
        due.is("the tape behind " + text, x.count(2), 0);
        if (answer != 1) {
            due.is("the law behind " + text, x.thing(0), 7);
        }
    }

    /** What he says by the law; all his numbers are unlike: m 3, g 9, l 5, h 21, r 4, t 8. */
    private static void worth(String text, int v) {
        due.is("thing by " + text, Laid.told(text).thing(4), v & 15);
    }

    private static void lawCalls() {
        due.promise(8);
        String[] fine = {"m", "0", "9999", "m;g", "m?g", "m?g;l?h;r", "((((((m))))))", "!!!!!!m", "------m", "m--g", "m-!g",
            "(m)+(g)", "m<g&l>h|r=t", "(m<g)<l", "m<(g<l)", "!(m)-(-g)", "m+g*l/h%r-t", "(m|g)&l", "!!!!!!m+!!!!!!g",
            "((((((m))))))*((((((m))))))", "!(((((m)))))", "m?g;m?g"};
        for (String text : fine) {
            fault(text, 1);
        }
        fault("", -100);
        fault("m;", -102);
        fault(";m", -100);
        fault("m;;m", -102);
        fault("m?", -102);
        fault("?m", -100);
        fault("m?g?l", -103);
        fault("(m?g)", -102);
        fault("(m;g)", -102);
        fault("12345", -104);
        fault("00001", -104);
        fault("m1", -101);
        fault("1m", -101);
        fault("mg", -101);
        fault("m(g)", -101);
        fault("(m)g", -103);
        fault("m<g<l", -103);
        fault("m<g=l", -103);
        fault("m<g+l>1", -105);
        fault("(m", -102);
        fault("(m+", -103);
        fault("m)", -101);
        fault("()", -101);
        fault("m+", -102);
        fault("m+*g", -102);
        fault("+m", -100);
        fault("m |g", -101);
        fault("m||g", -102);
        fault("M", -100);
        fault("x", -100);
        fault("m!g", -101);
        fault("!!!!!!!m", -106);
        fault("-------m", -106);
        fault("(((((((m)))))))", -106);
        fault("!(!(!(!m)))", -106);
        fault("!!!!!!-m", -106);
        fault("!!!!!!(m)", -106);
        fault("((((((", -106);
        fault("(((((((", -106);
        fault("((((((m)))))", -112);
        fault("((((((!m))))))", -106);
        fault("m\u0000", -101);
        fault("m\u00ff", -101);
        StringBuilder early = new StringBuilder("m");
        for (int i = 0; i < 59; i++) {
            early.append("+m");
        }
        fault(early.append('+').toString(), -220);
        StringBuilder lines = new StringBuilder("7");
        for (int i = 0; i < 59; i++) {
            lines.append(";7");
        }
        fault(lines.toString(), 1);
        fault(lines.append(';').toString(), -220);
        Stylite x = Due.ruled("7");
        due.is("law() of no tape", x.law(), -100);
        due.is("thing behind it", x.thing(0), 7);
        String[] texts = {"m", "g", "l", "h", "r", "t", "12", "0012", "m+r", "m-r", "m*r", "h/r", "h%r", "-m", "!m", "!0",
            "!!m", "m<r", "r<m", "m<m", "m>r", "r>m", "m>m", "m=3", "m=4", "m|0", "0|0", "0|m|0", "m&r", "m&0", "m&r&0"};
        int[] values = {3, 9, 5, 21, 4, 8, 12, 12, 7, -1, 12, 5, 1, -3, 0, 1,
            1, 1, 0, 0, 0, 1, 0, 1, 0, 1, 0, 1, 1, 0, 0};
        for (int i = 0; i < texts.length; i++) {
            worth(texts[i], values[i]);
        }
        worth("-h/r", -5);
        worth("-h%r", -1);
        worth("h/(0-r)", -5);
        worth("h%(0-r)", 1);
        worth("h/0", 0);
        worth("h%0", 0);
        worth("1+2*3", 7);
        worth("(1+2)*3", 9);
        worth("9-3-2", 4);
        worth("9-(3-2)", 8);
        worth("24/4/2", 3);
        worth("24/(4/2)", 12);
        worth("7*5%4", 3);
        worth("7*(5%4)", 7);
        worth("10-2<9", 1);
        worth("-m+r", 1);
        worth("-(m+r)", -7);
        worth("!m+1", 1);
        worth("!(m-3)", 1);
        worth("2|0&0", 1);
        worth("(2|0)&0", 0);
        worth("1=2|3", 1);
        worth("(m<r)+(r>m)", 2);
        worth("9999*9999*9999*9999", 9999 * 9999 * 9999 * 9999);
        worth("((9999*4+6345)*(9999*4+6345)<0)*5", 5);
        worth("(2048*1024*1024/(0-1)<0)*5", 5);
        worth("(2048*1024*1024%(0-1))+6", 6);
        worth("0?9;5", 5);
        worth("1?9;5", 9);
        worth("0?9;0?8", 0);
        worth("0?9;2?8;7", 8);
        worth("9;1?5", 9);
        worth("m=3?0;5", 0);
        worth("0-1?6;5", 6);
        worth("0?1/0;r*2", 8);
    }

    private static void thingCalls() {
        due.promise(9);
        Stylite x = Due.made();
        x.mend(0, 0, 15);
        x.mend(0, 1, 9);
        x.mend(0, 2, 15);
        due.is("m, three times r, g, l", x.thing(9), 15 + 27 + 9 + 15 & 15);
        due.is("thing(0)", x.thing(0), 39 & 15);
        String before = Probe.seen(x);
        due.is("thing(-1)", x.thing(-1), BAD);
        due.is("thing(10)", x.thing(10), BAD);
        x.thing(3);
        due.same("thing(3)", before, Probe.seen(x));
        x = Due.ruled("r+12");
        due.is("thing(3)", x.thing(3), 15);
        due.is("thing(4)", x.thing(4), 0);
        x = Due.ruled("-1");
        due.is("thing by -1", x.thing(4), 15);
    }

    /** BAD, -11, -12 of the calls that want a row of bytes on a shelf; shelf 0 has one, 1 has not, 2 a body, 3 nothing. */
    private interface OfShelf {
        long of(int shelf);
    }

    private static void refusals(String call, OfShelf one) {
        due.is(call + " shelf -1", one.of(-1), BAD);
        due.is(call + " shelf 6", one.of(6), BAD);
        due.is(call + " shelf least", one.of(LEAST), BAD);
        due.is(call + " a row of ints", one.of(1), -12);
        due.is(call + " a body", one.of(2), -12);
        due.is(call + " nothing", one.of(3), -11);
    }

    private static void hoursCalls() {
        due.promise(10);
        Stylite x = furnished("r");
        String before = Probe.seen(x);
        refusals("hours", shelf -> x.hours(shelf, 1, 0));
        due.is("n -1", x.hours(0, -1, 0), BAD);
        due.is("n 201", x.hours(0, 201, 0), BAD);
        due.is("what -1", x.hours(0, 1, -1), BAD);
        due.is("what 7", x.hours(0, 1, 7), BAD);
        due.is("n 201 of nothing", x.hours(3, 201, 0), BAD);
        int[][] due0 = {{0, NOT, 0, 0, 0, 6, 0, NOT}, {1, 1, 2, 1, 1, 7, 0, NOT}, {2, 2, 6, 2, 2, 8, 0, NOT},
            {3, 3, 12, 3, 3, 9, 0, NOT}, {4, 0, 12, 4, 0, 10, 0, NOT}, {7, 0, 12, 7, 0, 13, 0, NOT},
            {8, 0, 12, 8, 0, 14, 1, 7}, {10, 0, 12, 9, 0, 16, 3, 7}, {17, 0, 12, 9, 0, 23, 10, 7},
            {18, 0, 12, 9, 0, 0, 11, 7}, {200, 0, 12, 9, 0, 14, 193, 7}};
        for (int[] one : due0) {
            for (int what = 0; what < 7; what++) {
                due.is("hours(0, " + one[0] + ", " + what + ")", x.hours(0, one[0], what), one[what + 1]);
            }
        }
        due.same("hours", before, Probe.seen(x));
        Due.bytes(x, 0, 10, -1, 9, 127, 9);
        due.is("MOOD where 10, -1, 127 are none", x.hours(0, 5, 1), 36 & 15);
        due.is("LAST", x.hours(0, 4, 3), 0);
        x.mend(0, 4, 3);
        due.is("HUNGER by 3", x.hours(0, 2, 2), 6);
        due.is("HUNGER 9 at most", x.hours(0, 4, 2), 9);
        Stylite y = Due.ruled("15*(h=8)");
        y.row(0, 0, 0);
        due.is("15 is a lump", y.hours(0, 3, 5), 1);
        due.is("the first lump", y.hours(0, 3, 6), 2);
        y = Due.ruled("h");
        y.mend(0, 6, 0);
        y.row(0, 0, 0);
        due.is("none like the last", y.hours(0, 9, 5), 0);
        due.is("15 alone", y.hours(0, 10, 6), 9);
        y.mend(0, 2, 6);
        due.is("like the last as it was ahead", y.hours(0, 9, 6), 0);
        y.mend(0, 6, 1);
        due.is("HUNGER as it was ahead", y.hours(0, 9, 6), NOT);
        y.mend(0, 1, 1);
        due.is("HUNGER is TEMPER", y.hours(0, 1, 5), 1);
    }

    private static void oftenCalls() {
        due.promise(11);
        Stylite x = furnished("r");
        refusals("often", shelf -> x.often(shelf, 1, 0, 0));
        due.is("n -1", x.often(0, -1, 0, 1), BAD);
        due.is("n 201", x.often(0, 201, 0, 1), BAD);
        due.is("thing -1", x.often(0, 1, -1, 0), BAD);
        due.is("thing 16", x.often(0, 1, 16, 0), BAD);
        due.is("what -1", x.often(0, 1, 0, -1), BAD);
        due.is("what 2", x.often(0, 1, 0, 2), BAD);
        Due.bytes(x, 0, 1, 2, 1, 3);
        due.is("1 in 0", x.often(0, 0, 1, 0), 0);
        due.is("1 in 2", x.often(0, 2, 1, 0), 1);
        due.is("1 in 200", x.often(0, 200, 1, 0), 2);
        due.is("0 in 200", x.often(0, 200, 0, 0), 196);
        due.is("the first 3", x.often(0, 0, 3, 1), 3);
        due.is("the first 0", x.often(0, 1, 0, 1), 4);
        due.is("the first 4", x.often(0, 200, 4, 1), NOT);
        Stylite y = Due.ruled("m=15&h=0");
        y.row(0, 0, 60);
        y.put(0, 0, 1);
        due.is("never", y.often(0, 0, 1, 1), NOT);
        Stylite z = Due.ruled("h=23");
        z.row(0, 0, 0);
        due.is("lumps of a thing count, too", z.often(0, 200, 1, 0), 8);
        due.is("the first", z.often(0, 0, 1, 1), 17);
    }

    private static void roundCalls() {
        due.promise(12);
        Stylite x = Due.ruled("0");
        due.is("what -1", x.round(-1), BAD);
        due.is("what 2", x.round(2), BAD);
        due.is("HUNGER grows nine hours first", x.round(0), 33);
        due.is("when first", x.round(1), 9);
        x.mend(0, 4, 0);
        due.is("nothing grows", x.round(0), 24);
        due.is("at once", x.round(1), 0);
        x.mend(0, 2, 5);
        due.is("LAST differs once", x.round(0), 25);
        due.is("LAST differs once: first", x.round(1), 1);
        // found by a search: one hour earlier it would be the thousandth
        x = Due.ruled("l+(m*21+h*1)*(m+5)/3+(l=7&m<11)");
        due.is("not by 999", x.round(0), NOT);
        due.is("not by 999: first", x.round(1), NOT);
        x.hour(0);
        x.hour(0);
        due.is("just not by 999", x.round(0), NOT);
        x.hour(0);
        due.is("just by 999", x.round(0), 999);
        due.is("just by 999: first", x.round(1), 87);
        String before = Probe.seen(x);
        x.round(0);
        due.same("round(0)", before, Probe.seen(x));
    }

    private static void makeCalls() {
        due.promise(13);
        Stylite x = Due.ruled("r");
        due.is("tr -1", x.make(-1, -1), BAD);
        due.is("tr 16384", x.make(16384, -1), BAD);
        due.is("k -2", x.make(0, -2), BAD);
        due.is("k least", x.make(0, LEAST), BAD);
        due.is("5 by any", x.make(5 * 1024 + 1023, -1), 1);
        due.is("5's remark", x.make(5 * 1024 + 1023, 0), 5);
        due.is("there are not as many", x.make(5 * 1024 + 1023, 1), NOT);
        due.is("there are not as many", x.make(5 * 1024 + 1023, MOST), NOT);
        due.is("5 without 5", x.make(5 * 1024 + 1023 - 32, -1), NOT);
        due.is("5 without 5, k 0", x.make(5 * 1024 + 1023 - 32, 0), NOT);
        due.is("0 by none told", x.make(0, -1), 1);
        due.is("1 by none told", x.make(1024, -1), NOT);
        due.is("0 by 1 alone", x.make(2, -1), NOT);
        x = Due.ruled("m");
        String before = Probe.seen(x);
        due.is("3 by any", x.make(3 * 1024 + 1023, -1), 2);
        due.is("3's remarks", x.make(3 * 1024 + 1023, 0), 3);
        due.is("3's remarks", x.make(3 * 1024 + 1023, 1), 0);
        due.is("3 by 1", x.make(3 * 1024 + 2, -1), 3);
        due.is("3 by 1, the first", x.make(3 * 1024 + 2, 0), 1);
        due.is("3 by 1, the third", x.make(3 * 1024 + 2, 2), 1);
        due.is("3 by 1, no fourth", x.make(3 * 1024 + 2, 3), NOT);
        due.is("6 by 2, 3, 4: 2 and 2", x.make(6 * 1024 + 28, 0), 2);
        due.is("6 by 2, 3, 4: two hours and one", x.make(6 * 1024 + 28, -1), 3);
        due.is("6 by 2, 3, 4: the last is any", x.make(6 * 1024 + 28, 2), 2);
        due.same("make", before, Probe.seen(x));
        x = Due.ruled("h");
        due.is("in the twelfth hour", x.make(1024 + 1, -1), 12);
        due.is("the twelfth's remark", x.make(1024 + 6, 11), 1);
        due.is("in the thirteenth", x.make(2048 + 1, -1), NOT);
    }

    private static void reciteCalls() {
        due.promise(14);
        Stylite x = furnished("r");
        refusals("recite", shelf -> x.recite(shelf, -1));
        due.is("k -3", x.recite(0, -3), BAD);
        due.is("k -3 of nothing", x.recite(3, -3), BAD);
        due.is("1, 2, 3", x.recite(0, -1), 1);
        due.is("sure", x.recite(0, -2), 3);
        for (int k = 0; k < 3; k++) {
            due.is("the remark", x.recite(0, k), k + 1);
        }
        due.is("no fourth", x.recite(0, 3), NOT);
        due.is("nowhere near", x.recite(0, MOST), NOT);
        Due.bytes(x, 0, 1, 10);
        due.is("no way", x.recite(0, -1), 0);
        due.is("no way: k 0", x.recite(0, 0), NOT);
        due.is("no way: k 9", x.recite(0, 9), NOT);
        due.is("no way: sure", x.recite(0, -2), NOT);
        Due.bytes(x, 0, 4, 16, 10);
        due.is("ends with what is none", x.recite(0, -1), 1);
        due.is("one sure", x.recite(0, -2), 1);
        Due.bytes(x, 0, -1, 10);
        due.is("of nothing", x.recite(0, -1), 1);
        due.is("of nothing: sure", x.recite(0, -2), 0);
        due.is("of nothing: k 0", x.recite(0, 0), NOT);
        Stylite y = Due.ruled("r/2");
        Due.bytes(y, 0, 0, 1, 4);
        int[] remarks = {0, 2, 8};
        for (int k = 0; k < 3; k++) {
            due.is("the first by numbers", y.recite(0, k), remarks[k]);
        }
        due.is("none sure", y.recite(0, -2), 0);
        y = Due.ruled("r/9");
        Due.bytes(y, 0, 1, 0, 1);
        due.is("two sure", y.recite(0, -2), 2);
        y = Due.ruled("m");
        Due.bytes(y, 0, 0, 7, 15);
        due.is("the remark ahead counts", y.recite(0, 0), 7);
        due.is("and of the second hour", y.recite(0, 1), 1);
        due.is("the last is free", y.recite(0, 2), 0);
        due.is("two sure, one free", y.recite(0, -2), 2);
        y = Due.ruled("r");
        Due.bytes(y, 0, 1, 1, 1, 1, 1, 1, 1, 1, 1, 1, 1, 1, 15);
        due.is("twelve at most", y.recite(0, -1), 1);
        due.is("the twelfth", y.recite(0, 11), 1);
        due.is("no thirteenth", y.recite(0, 12), NOT);
        Due.bytes(y, 0, 1, 1, 1, 1, 1, 1, 1, 1, 1, 1, 1, 15);
        due.is("the twelfth counts", y.recite(0, -1), 0);
        y = Due.ruled("(g=2)*2+(h=8)*4+l");
        Due.bytes(y, 0, 0, 0, 6, 6);
        due.is("HUNGER, HOUR, LAST go on", y.recite(0, -1), 1);
    }

    private static void waysToCalls() {
        due.promise(15);
        Stylite x = furnished("r/2");
        due.is("shelf -1", x.waysTo(-1), NONE);
        due.is("shelf 6", x.waysTo(6), NONE);
        due.is("a row of ints", x.waysTo(1), NONE);
        due.is("a body", x.waysTo(2), NONE);
        due.is("nothing", x.waysTo(3), NONE);
        Due.bytes(x, 0, 0, 1, 4);
        due.is("eight", x.waysTo(0), 8);
        Due.bytes(x, 0, 0, 1, 5);
        due.is("none", x.waysTo(0), 0);
        x.row(0, 0, 0);
        due.is("of nothing", x.waysTo(0), 1);
        x = Due.ruled("0");
        x.row(0, 0, 12);
        due.is("a million millions", x.waysTo(0), 1000000000000L);
        x.row(0, 0, 13);
        due.is("twelve at most", x.waysTo(0), 1000000000000L);
        x.put(0, 11, 16);
        due.is("eleven", x.waysTo(0), 100000000000L);
        x = Due.ruled("m");
        Due.bytes(x, 0, 0, 7, 15);
        due.is("the last is free", x.waysTo(0), 10);
    }

    private static void mostCalls() {
        due.promise(16);
        Stylite x = Due.ruled("r");
        due.is("set -1", x.most(-1, 1024, -1), BAD);
        due.is("set 65536", x.most(65536, 1024, -1), BAD);
        due.is("n 0", x.most(0, 1023, -1), BAD);
        due.is("n 13", x.most(0, 13312, -1), BAD);
        due.is("nr -1", x.most(0, -1, -1), BAD);
        due.is("nr greatest", x.most(0, MOST, -1), BAD);
        due.is("k -2", x.most(0, 1024, -2), BAD);
        String before = Probe.seen(x);
        due.is("9 in 3", x.most(512, 3 * 1024 + 1023, -1), 3);
        for (int k = 0; k < 3; k++) {
            due.is("9's remarks", x.most(512, 3 * 1024 + 1023, k), 9);
            due.is("of 3 and 5 the first", x.most(40, 3 * 1024 + 1023, k), 3);
            due.is("what can't be said", x.most(1024, 3 * 1024 + 1022, k), 1);
        }
        due.is("no fourth", x.most(512, 3 * 1024 + 1023, 3), NOT);
        due.is("nowhere near", x.most(512, 3 * 1024 + 1023, MOST), NOT);
        due.is("3 by 4 alone", x.most(8, 3 * 1024 + 16, -1), 0);
        due.is("3 by 4 alone: 4", x.most(8, 3 * 1024 + 16, 0), 4);
        due.is("0 by none told", x.most(1, 12 * 1024, -1), 12);
        due.is("none told: 0", x.most(1, 12 * 1024, 11), 0);
        due.is("all in 12", x.most(65535, 12 * 1024 + 1023, -1), 12);
        due.is("none of a set", x.most(0, 12 * 1024 + 1023, -1), 0);
        due.same("most", before, Probe.seen(x));
        x = Due.ruled("m");
        due.is("15 from the second hour on", x.most(32768, 3 * 1024 + 1023, -1), 1);
        due.is("15 by 6 and then 9", x.most(32768, 3 * 1024 + 1023, 0), 3);
        due.is("15 by 6 and then 9", x.most(32768, 3 * 1024 + 1023, 1), 9);
        due.is("15 by 6 and then 9", x.most(32768, 3 * 1024 + 1023, 2), 0);
        due.is("15 by four hours", x.most(32768, 4 * 1024 + 1023, -1), 2);
    }

    private static void quietCalls() {
        due.promise(17);
        Stylite x = Due.ruled("15");
        due.is("n 0", x.quiet(1023, -1), BAD);
        due.is("n 13", x.quiet(13312, -1), BAD);
        due.is("nr least", x.quiet(LEAST, -1), BAD);
        due.is("k -2", x.quiet(1024, -2), BAD);
        due.is("lumps alone", x.quiet(5 * 1024 + 1023, -1), 5);
        due.is("lumps alone", x.quiet(12 * 1024 + 6, -1), 12);
        due.is("of like ones the first", x.quiet(12 * 1024 + 6, 11), 1);
        due.is("no sixth", x.quiet(5 * 1024 + 1023, 5), NOT);
        x = Due.ruled("r");
        x.mend(0, 6, 0);
        String before = Probe.seen(x);
        due.is("never like the last", x.quiet(3 * 1024 + 3, -1), 0);
        due.is("first 1", x.quiet(3 * 1024 + 3, 0), 1);
        due.is("then 0", x.quiet(3 * 1024 + 3, 1), 0);
        due.is("then 1", x.quiet(3 * 1024 + 3, 2), 1);
        due.is("0 alone", x.quiet(3 * 1024, -1), 3);
        due.is("1 alone", x.quiet(3 * 1024 + 2, -1), 2);
        due.same("quiet", before, Probe.seen(x));
        x.mend(0, 6, 2);
        due.is("HUNGER below TEMPER twice", x.quiet(3 * 1024, -1), 1);
        x = Due.ruled("r*5");
        due.is("3 makes a lump", x.quiet(1024 + 8, -1), 1);
        due.is("3 or 4", x.quiet(1024 + 24, 0), 4);
    }

    private static void tellsMostCalls() {
        due.promise(18);
        Stylite x = Due.ruled("r");
        due.is("n 0", x.tellsMost(0, 0), BAD);
        due.is("n 13", x.tellsMost(13, 0), BAD);
        due.is("what -1", x.tellsMost(1, -1), BAD);
        due.is("what 2", x.tellsMost(1, 2), BAD);
        due.is("of like ones the least", x.tellsMost(1, 0), 1);
        due.is("in none", x.tellsMost(1, 1), 0);
        due.is("all but the first", x.tellsMost(12, 1), 11);
        x = Due.ruled("0");
        due.is("none tells", x.tellsMost(5, 0), 1);
        due.is("in all", x.tellsMost(5, 1), 5);
        x = Due.ruled("r>7");
        due.is("8 tells", x.tellsMost(3, 0), 8);
        due.is("8 tells", x.tellsMost(3, 1), 2);
        x = Due.ruled("m&m%4");
        String before = Probe.seen(x);
        due.is("by MOOD", x.tellsMost(2, 0), 1);
        due.is("by MOOD", x.tellsMost(2, 1), 1);
        due.same("tellsMost", before, Probe.seen(x));
        x = Due.ruled("m/9");
        due.is("9 alone tells", x.tellsMost(4, 0), 9);
        due.is("in the first alone", x.tellsMost(4, 1), 1);
    }

    private static void soldCalls() {
        due.promise(19);
        Stylite x = furnished("r");
        refusals("sold", shelf -> x.sold(shelf, 1, -1));
        due.is("n -1", x.sold(0, -1, -1), BAD);
        due.is("n 201", x.sold(0, 201, -1), BAD);
        due.is("stall -2", x.sold(0, 1, -2), BAD);
        due.is("stall 2", x.sold(0, 1, 2), BAD);
        due.is("stall 2 of nothing", x.sold(3, 1, 2), BAD);
        String before = Probe.seen(x);
        due.is("no hours", x.sold(0, 0, -1), 0);
        due.is("stall 0 in 3", x.sold(0, 3, 0), 3);
        due.is("stall 1 in 3", x.sold(0, 3, 1), 1);
        due.is("pence in 3", x.sold(0, 3, -1), 14);
        due.is("pence in 200", x.sold(0, 200, -1), 605);
        due.same("sold", before, Probe.seen(x));
        x.mend(0, 5, 4);
        due.is("CELL is LOUD", x.sold(0, 3, 1), 1);
        x.mend(0, 5, 3);
        due.is("CELL is more", x.sold(0, 3, 1), 0);
        due.is("pence of the other", x.sold(0, 3, -1), 9);
    }

    private static void placesCalls() {
        due.promise(20);
        Stylite x = furnished("h");
        refusals("places", shelf -> x.places(shelf, 1));
        due.is("n -1", x.places(0, -1), BAD);
        due.is("n 201", x.places(0, 201), BAD);
        due.is("n 201 of nothing", x.places(3, 201), BAD);
        Stylite y = Due.ruled("h+r");
        y.stall(64, 1);
        y.stall(128, 10);
        y.stall(256, 99);
        y.mend(2, 9, 9);
        y.mend(0, 5, 1);
        long[][] rows = {{2, 1, 0}, {0, 0, 1}, {3}, {}, {0, 1, 7, 2}, {-1}, {0, 2, 1}, {1, 2}, {1, 16, 2}};
        int[] pence = {109, 1, 0, 0, 11, 0, 100, 109, 10};
        for (int i = 0; i < rows.length; i++) {
            Due.bytes(y, 0, rows[i]);
            due.is("places of row " + i, y.places(0, 3), pence[i]);
        }
        Due.bytes(y, 0, 1, 2);
        due.is("in one hour", y.places(0, 1), 0);
        due.is("in two", y.places(0, 2), 10);
        due.is("in none", y.places(0, 0), 0);
        String before = Probe.seen(y);
        y.places(0, 200);
        due.same("places", before, Probe.seen(y));
    }

    private static void bestCalls() {
        due.promise(21);
        Stylite x = Due.ruled("h");
        due.is("no stalls", x.best(3, -1), 0);
        due.is("no stalls, k 0", x.best(3, 0), NOT);
        x.stall(64, 1);
        x.stall(128, 10);
        x.stall(256, 99);
        x.mend(1, 9, 9);
        due.is("n -1", x.best(-1, -1), BAD);
        due.is("n 201", x.best(201, -1), BAD);
        due.is("k -2", x.best(3, -2), BAD);
        String before = Probe.seen(x);
        order(x, 3, 110, 0, 1, 2);
        order(x, 0, 0, 0, 1, 2);
        due.same("best", before, Probe.seen(x));
        x.mend(0, 5, 1);
        order(x, 3, 109, 1, 2, 0);
        order(x, 2, 11, 0, 1, 2);
        order(x, 1, 1, 0, 1, 2);
        x.mend(0, 5, 0);
        order(x, 3, 99, 2, 0, 1);
        order(x, 2, 10, 1, 0, 2);
        x = Due.ruled("h");
        x.stall(0, 9);
        x.stall(0, 9);
        order(x, 200, 0, 0, 1);
        x = Due.ruled("0");
        int[] price = {5, 1, 5, 9, 1, 7};
        for (int i = 0; i < 6; i++) {
            x.stall(1, price[i]);
        }
        x.mend(0, 5, 2);
        order(x, 200, 4200, 0, 3, 5, 1, 2, 4);
        x.mend(0, 5, 4);
        order(x, 10, 270, 0, 1, 2, 3, 5, 4);
        x.mend(0, 5, 9);
        order(x, 10, 280, 0, 1, 2, 3, 4, 5);
    }

    private static void order(Stylite x, int n, int pence, int... stalls) {
        due.is("best pence of " + n, x.best(n, -1), pence);
        for (int k = 0; k < stalls.length; k++) {
            due.is("best of " + n + ", stall " + k, x.best(n, k), stalls[k]);
        }
        due.is("best, one more", x.best(n, stalls.length), NOT);
        due.is("best, far", x.best(n, MOST), NOT);
    }

    private static void whenCalls() {
        due.promise(22);
        Stylite x = Due.ruled("h+r");
        due.is("no stall", x.when(0, 1, 0), BAD);
        x.stall(1, 1);
        x.stall(1, 1);
        x.stall(2048, 1);
        due.is("stall -1", x.when(-1, 1, 0), BAD);
        due.is("stall 3", x.when(3, 1, 0), BAD);
        due.is("w 0", x.when(0, 0, 0), BAD);
        due.is("w 25", x.when(0, 25, 0), BAD);
        due.is("what -1", x.when(0, 1, -1), BAD);
        due.is("what 2", x.when(0, 1, 2), BAD);
        // he says 0 behind 10, 18, 34, 42 hours
        int[][] rows = {{1, 10, 1}, {8, 3, 1}, {9, 10, 2}, {17, 2, 2}, {24, 0, 2}};
        for (int[] one : rows) {
            due.is("when w " + one[0], x.when(0, one[0], 0), one[1]);
            due.is("when w " + one[0] + " how often", x.when(0, one[0], 1), one[2]);
        }
        x.mend(1, 9, 5);
        due.is("CELL is LOUD", x.when(1, 9, 1), 2);
        x.mend(1, 9, 6);
        due.is("CELL is more", x.when(1, 9, 1), 0);
        due.is("CELL is more", x.when(1, 9, 0), 0);
        // he says 1 behind 23 hours, 2 behind 47: the last of them
        x = Due.ruled("h=5?m+1;0");
        x.stall(4, 1);
        due.is("the forty-eighth hour counts", x.when(0, 1, 0), 47);
        due.is("the forty-eighth hour counts", x.when(0, 1, 1), 1);
        due.is("the last row of 24", x.when(0, 24, 0), 24);
        due.is("not the first row of 24", x.when(0, 24, 1), 1);
        x.mend(0, 7, 2);
        due.is("from the first row on", x.when(0, 24, 0), 0);
        x.mend(0, 3, 4);
        String before = Probe.seen(x);
        due.is("nearer by two hours less", x.when(0, 1, 0), 1);
        due.same("when", before, Probe.seen(x));
    }

    private static void verdictCalls() {
        due.promise(23);
        Stylite x = furnished("r");
        refusals("verdict", shelf -> x.verdict(shelf, 0));
        due.is("school -1", x.verdict(0, -1), BAD);
        due.is("school 2", x.verdict(0, 2), BAD);
        due.is("school 2 of nothing", x.verdict(3, 2), BAD);
        // school 0 reads 1 alone as yes, school 1 all but 0 and 1
        due.is("1, 2, 3 by 0", x.verdict(0, 0), 0);
        due.is("1, 2, 3 by 1", x.verdict(0, 1), 1);
        Due.bytes(x, 0, 1, 2);
        due.is("1, 2 by 0", x.verdict(0, 0), NOT);
        Due.bytes(x, 0, 1, 1, 2);
        due.is("1, 1, 2 by 0", x.verdict(0, 0), 1);
        Due.bytes(x, 0, 1, 16, 2, 2);
        due.is("ends with what is none", x.verdict(0, 0), 1);
        Due.bytes(x, 0, -1, 2);
        due.is("no things", x.verdict(0, 0), NOT);
        x.row(0, 0, 60);
        for (int i = 0; i < 60; i++) {
            x.put(0, i, i < 29 ? 1 : 2);
        }
        due.is("sixty, 29 of them yes", x.verdict(0, 0), 0);
        x.put(0, 59, 1);
        due.is("sixty, 30 of them yes", x.verdict(0, 0), NOT);
        x.put(0, 58, 1);
        due.is("sixty, 31 of them yes", x.verdict(0, 0), 1);
    }

    private static void clashCalls() {
        due.promise(24);
        Stylite x = furnished("r");
        refusals("clash", shelf -> x.clash(shelf, 0));
        due.is("school -1", x.clash(0, -1), BAD);
        due.is("school 2", x.clash(0, 2), BAD);
        x.school(65535);
        x.school(0);
        x.school(12);
        due.is("with no", x.clash(0, 0), 2 + 4 + 16);
        due.is("with yes", x.clash(0, 1), 1 + 8);
        Due.bytes(x, 0, 1, 2);
        due.is("one that says nothing", x.clash(0, 0), 0);
        due.is("those that say nothing do not", x.clash(0, 2), 8);
        due.is("those that say nothing do not", x.clash(0, 3), 4);
        x.row(0, 0, 0);
        due.is("of nothing", x.clash(0, 2), 0);
    }

    private static void judgeCalls() {
        due.promise(25);
        Stylite x = furnished("r");
        refusals("judge", shelf -> x.judge(shelf, 0));
        due.is("school -1", x.judge(0, -1), BAD);
        due.is("school 2", x.judge(0, 2), BAD);
        long[][] rows = {{1, 16, 2, 17}, {1, 16, 2, 16}, {2, 16}, {1, 2, 16}, {1, 2, 17}, {16}, {17}, {1, 2, 3}, {},
            {1, 16, 18, 2, 16}, {1, 16, -1, 2, 16}, {1, 1, 2, 16, 2, 2, 1, 17, 1, 17}};
        int[] first = {NOT, 1, 0, 0, 0, 0, 0, NOT, NOT, NOT, NOT, 2};
        for (int i = 0; i < rows.length; i++) {
            Due.bytes(x, 0, rows[i]);
            due.is("judge of row " + i, x.judge(0, 0), first[i]);
        }
        long[] thirteen = new long[26];
        for (int i = 0; i < 13; i++) {
            thirteen[2 * i] = 1;
            thirteen[2 * i + 1] = i < 12 ? 16 : 17;
        }
        Due.bytes(x, 0, thirteen);
        due.is("twelve at most", x.judge(0, 0), NOT);
        x.put(0, 23, 17);
        due.is("the twelfth", x.judge(0, 0), 11);
    }

    private static void readCalls() {
        due.promise(26);
        Stylite x = furnished("r");
        refusals("read", shelf -> x.read(shelf, 0));
        due.is("what -1", x.read(0, -1), BAD);
        due.is("what 2", x.read(0, 2), BAD);
        due.is("what 2 of nothing", x.read(3, 2), BAD);
        long[][] rows = {{}, {3, 17}, {3, 16}, {3, 15, 15, 16}, {5, 4, 16}, {2, 3, 4, 16}, {3, 16, 3, 17}, {16}, {17},
            {1, 2, 3, 16, 3, 17}, {0, 1, 2, 3, 4, 5, 6, 7, 8, 9, 10, 11, 12, 13, 14, 15, 16}, {3, 3, 16, 18, 3, 17},
            {9, 8, 16, 9, 7, 16, 9, 8, 7, 6, 6, 16}, {1, 2, 16, 1, 17}, {1, 2, 2, 16, 1, 1, 2, 17},
            {1, 2, 3, 4, 5, 16, 1, 2, 17}};
        int[] many = {0, 0, 1, 1, 2, 2, NOT, NOT, NOT, 2, 9, 1, 3, NOT, 1, 3};
        int[] which = {0, 0, 8, 32768, 48, 12, NOT, NOT, NOT, 6, 511, 8, 896, NOT, 4, 56};
        for (int i = 0; i < rows.length; i++) {
            Due.bytes(x, 0, rows[i]);
            due.is("read of row " + i + ", how many", x.read(0, 0), many[i]);
            due.is("read of row " + i + ", which", x.read(0, 1), which[i]);
        }
        long[] thirteen = new long[26];
        for (int i = 0; i < 13; i++) {
            thirteen[2 * i] = i;
            thirteen[2 * i + 1] = 16;
        }
        Due.bytes(x, 0, thirteen);
        due.is("twelve at most", x.read(0, 1), 4095);
    }

    private static void drawnCalls() {
        due.promise(27);
        Stylite x = Due.ruled("h");
        int[][] bad = {{0, 101, 0, -1}, {0, 101, 0, 2}, {0, 1, 0, 0}, {0, 100, 0, 0}, {0, 125, 0, 0}, {0, 3101, 0, 0},
            {0, -101, 0, 0}, {0, 101, -1, 0}, {0, 101, 13, 0}, {0, 101, 1600, 0}, {0, 101, -100, 0}, {0, MOST, 0, 0},
            {0, 101, MOST, 0}, {0, LEAST, LEAST, 0}};
        for (int[] one : bad) {
            due.is("drawn", x.drawn(one[0], one[1], one[2], one[3]), BAD);
        }
        String before = Probe.seen(x);
        due.is("each night from now: 15", x.drawn(5, 310, 0, 0), 3);
        due.is("each night from now: not yet 15", x.drawn(5, 309, 0, 0), 0);
        due.is("how often 6", x.drawn(5, 3001, 600, 1), 30);
        due.is("how often 7", x.drawn(5, 3001, 700, 1), 0);
        due.is("a lump's thing", x.drawn(5, 110, 1500, 1), 1);
        due.same("drawn", before, Probe.seen(x));
        int[] seeds = {0, 1, -1, LEAST, MOST, 123456789};
        for (int seed : seeds) {
            x = Due.ruled("r");
            for (int talks = 0; talks <= 12; talks++) {
                int[] times = Laid.drawnRemarks(seed, 30 * 24, talks);
                for (int thing = 0; thing < 10; thing++) {
                    due.is("drawn " + thing, x.drawn(seed, 3024, thing * 100 + talks, 1), times[thing]);
                }
            }
        }
        due.is("by hand: 12345 >>> 8 is 48", x.drawn(0, 101, 812, 1), 1);
        due.is("none without talks", x.drawn(0, 101, 0, 1), 1);
    }

    private static void hourCalls() {
        due.promise(28);
        Stylite x = Due.ruled("r+6*(r=9)");
        x.stall(2, 5);
        x.stall(32770, 7);
        x.mend(1, 9, 6);
        String before = Probe.seen(x);
        due.is("hour(-1)", x.hour(-1), BAD);
        due.is("hour(10)", x.hour(10), BAD);
        due.same("a refused hour", before, Probe.seen(x));
        due.is("hour(1)", x.hour(1), 1);
        due.is("sold by 0", x.of(0, 11), 1);
        due.is("too far", x.of(1, 11), 0);
        due.is("pence", x.led(3), 5);
        x.mend(1, 9, 5);
        due.is("15 is a lump", x.hour(9), 31);
        due.is("sold by 1", x.of(1, 11), 1);
        due.is("MOOD", x.of(0, 0), 2 + 15 + 9 & 15);
        due.is("LAST", x.of(0, 2), 15);
        due.is("HUNGER", x.of(0, 1), 2);
        due.is("HOUR", x.of(0, 3), 8);
        due.is("hour(3)", x.hour(3), 3);
        due.is("like the last, not hungry", x.hour(3), 3);
        x.mend(0, 6, 4);
        due.is("like the last, hungry", x.hour(3), 19);
        x.mend(0, 3, 23);
        x.mend(0, 1, 8);
        x.mend(0, 4, 3);
        due.is("unlike the last", x.hour(4), 4);
        due.is("HOUR 0 behind 23", x.of(0, 3), 0);
        due.is("HUNGER 9 at most", x.of(0, 1), 9);
    }

    private static void fedCalls() {
        due.promise(29);
        Stylite x = Due.made();
        x.mend(0, 1, 9);
        String before = Probe.seen(x);
        due.is("fed(-1)", x.fed(-1), BAD);
        due.is("fed(10)", x.fed(10), BAD);
        due.same("a refused feeding", before, Probe.seen(x));
        due.is("fed(0)", x.fed(0), 9);
        due.is("fed(4)", x.fed(4), 5);
        due.is("fed(6)", x.fed(6), 0);
        due.is("fed(9)", x.fed(9), 0);
        due.is("HUNGER", x.of(0, 1), 0);
        due.is("feedings", x.led(4), 4);
        due.is("changes", x.count(3), 1);
    }

    private static void ledCalls() {
        due.promise(30);
        Stylite x = Due.ruled("15*(r=1)+r");
        x.stall(5, 3);
        x.hour(0);
        x.hour(2);
        x.hour(2);
        x.hour(3);
        x.mend(0, 6, 0);
        x.hour(3);
        x.fed(1);
        x.fed(2);
        int[] all = {5, 1, 4, 9, 2};
        for (int what = 0; what < 5; what++) {
            due.is("led(" + what + ")", x.led(what), all[what]);
        }
        due.is("led(-1)", x.led(-1), BAD);
        due.is("led(5)", x.led(5), BAD);
        x.row(0, 0, 0);
        x.hours(0, 9, 0);
        x.drawn(1, 101, 12, 0);
        due.is("thought is not led", x.led(0), 5);
    }

    private static void imageCalls() {
        due.promise(31);
        Stylite x = Due.made();
        due.is("image()", x.image(), 0);
        x.hour(1);
        x.hour(2);
        String before = Probe.seen(x);
        due.is("image() behind two hours", x.image(), 2);
        due.same("image()", before, Probe.seen(x));
        x.hour(3);
        due.is("image() anew", x.image(), 3);
        x.hour(3);
        due.is("the latest is laid back", x.back(), 3);
        due.is("changes", x.count(3), 0);
    }

    private static void backCalls() {
        due.promise(32);
        Stylite x = Due.made();
        due.is("none", x.back(), STATE);
        x.stall(65535, 2);
        x.hour(3);
        x.fed(1);
        x.image();
        int[] was = {x.of(0, 0), x.of(0, 1), x.of(0, 2), x.of(0, 3), x.led(0), x.led(1), x.led(2), x.led(3), x.led(4)};
        x.hour(5);
        x.fed(3);
        x.mend(0, 0, 14);
        x.mend(0, 1, 8);
        x.mend(0, 4, 3);
        x.mend(0, 5, 2);
        x.mend(0, 6, 1);
        x.hour(7);
        x.hour(3);
        int changes = x.count(3);
        for (int times = 0; times < 2; times++) {
            due.is("back()", x.back(), 1);
            for (int i = 0; i < 9; i++) {
                due.is("laid back " + i, i < 4 ? x.of(0, i) : x.led(i - 4), was[i]);
            }
            due.is("GROWS stays", x.of(0, 4), 3);
            due.is("LOUD stays", x.of(0, 5), 2);
            due.is("TEMPER stays", x.of(0, 6), 1);
            due.is("what stalls have sold stays", x.of(0, 11), 4 + times);
            due.is("changes stay", x.count(3), changes);
            x.hour(1);
            x.fed(9);
        }
        due.is("undo() behind it", x.undo(), changes - 1);
        due.is("TEMPER by it", x.of(0, 6), 7);
    }

    private static void undoCalls() {
        due.promise(33);
        Stylite x = Due.made();
        String before = Probe.seen(x);
        due.is("none", x.undo(), STATE);
        due.same("undo() of none", before, Probe.seen(x));
        x.stall(3, 4);
        x.school(9);
        int[] told = {1, 2, 3, 4, 0, 6, 8, 5, 7, 2, 77};
        int[] was = {0, 0, 0, 6, 1, 5, 7, 3, 4, 0, 9};
        for (int what = 0; what < 11; what++) {
            x.mend(0, what, told[what]);
        }
        for (int what = 10; what >= 0; what--) {
            due.is("of " + what, x.of(0, what), told[what]);
            due.is("undo of " + what, x.undo(), what);
            due.is("of " + what + " then", x.of(0, what), was[what]);
        }
        due.is("none left", x.undo(), STATE);
        x = Due.made();
        for (int i = 0; i < 41; i++) {
            x.mend(0, 0, i % 15 + 1);
            due.is("changes", x.count(3), Math.min(40, i + 1));
        }
        for (int i = 39; i >= 0; i--) {
            due.is("undo", x.undo(), i);
            due.is("MOOD", x.of(0, 0), i % 15 + 1);
        }
        due.is("the first is forgotten", x.undo(), STATE);
        due.is("MOOD as told first", x.of(0, 0), 1);
        x = Due.made();
        x.stall(0, 0);
        x.stall(0, 0);
        // 45 changes: of stall 0's and 1's PRICE and LIKES by turns
        for (int i = 0; i < 45; i++) {
            x.mend(i % 2, 7 + i % 3 % 2, i + 1);
        }
        for (int i = 44; i >= 5; i--) {
            due.is("the latest of many", x.of(i % 2, 7 + i % 3 % 2), i + 1);
            due.is("undo of many", x.undo(), i - 5);
        }
        due.is("LIKES of 0 by the first five", x.of(0, 7), 3);
        due.is("PRICE of 0 by the first five", x.of(0, 8), 5);
        due.is("LIKES of 1 by the first five", x.of(1, 7), 4);
        due.is("PRICE of 1 by the first five", x.of(1, 8), 2);
        x = Due.ruled("r");
        x.mend(0, 0, 5);
        x.hour(4);
        due.is("deeds are none", x.count(3), 1);
        x.undo();
        due.is("MOOD as it was ahead of the mend", x.of(0, 0), 0);
        due.is("LAST by the deed", x.of(0, 2), 4);
    }

    private static void redoCalls() {
        due.promise(34);
        Stylite x = Due.made();
        String before = Probe.seen(x);
        due.is("none", x.redo(), STATE);
        due.same("redo() of none", before, Probe.seen(x));
        x.stall(3, 4);
        x.school(9);
        x.mend(0, 0, 5);
        x.mend(0, 8, 7);
        x.mend(0, 10, 3);
        due.is("nothing undone", x.redo(), STATE);
        x.undo();
        x.undo();
        x.undo();
        due.is("again", x.redo(), 2);
        due.is("MOOD", x.of(0, 0), 5);
        due.is("changes", x.count(3), 1);
        x.mend(0, 0, 5);
        x.hour(1);
        x.image();
        x.back();
        due.is("the same number and deeds are none", x.redo(), 1);
        due.is("PRICE", x.of(0, 8), 7);
        due.is("again", x.redo(), 0);
        due.is("READS", x.of(0, 10), 3);
        due.is("no more", x.redo(), STATE);
        due.is("undo", x.undo(), 2);
        due.is("READS", x.of(0, 10), 9);
        x.mend(0, 5, 9);
        due.is("another came behind", x.redo(), STATE);
        due.is("undo of it", x.undo(), 2);
        due.is("LOUD", x.of(0, 5), 5);
        due.is("and again", x.redo(), 0);
        due.is("LOUD", x.of(0, 5), 9);
        x = Due.made();
        for (int i = 0; i < 45; i++) {
            x.mend(0, 3, i % 20);
        }
        for (int i = 0; i < 40; i++) {
            x.undo();
        }
        for (int i = 39; i >= 0; i--) {
            due.is("redo", x.redo(), i);
            due.is("HOUR", x.of(0, 3), (44 - i) % 20);
        }
        due.is("none left", x.redo(), STATE);
    }

    private static void bodyCalls() {
        due.promise(35);
        Stylite x = Due.made();
        due.is("kind -1", x.body(-1), BAD);
        due.is("kind 8", x.body(8), BAD);
        for (int i = 0; i < 50; i++) {
            due.is("body " + i, x.body(i % 8), i);
        }
        due.is("a fifty-first", x.body(0), FULL);
        due.is("a wrong fifty-first", x.body(8), BAD);
        due.is("count", x.count(4), 50);
        due.is("n of the last", x.act(49, 2, 0), 49);
        for (int i = 0; i < 50; i++) {
            x.keep(0, i);
            due.is("its kind", x.taken(0, 0), i % 8);
        }
    }

    private static void actCalls() {
        due.promise(36);
        Stylite x = Due.made();
        for (int kind = 0; kind < 8; kind++) {
            x.body(kind);
        }
        // x 5: by kind says, falls, sells, tells; a body's number is its kind
        int[][] worth = {{5, 10, 5, 9}, {9, 18, 4, 18}, {7, -14, 7, -17}, {8, -18, 18, -24}, {12, 24, 1, 22},
            {10, -22, -7, -26}, {22, 44, 3, 37}, {23, 51, 2, 45}};
        int[][] traces = {{1}, {10, 1}, {11}, {2, 10, 1, 11}, {20, 1}, {10, 20, 1}, {11}, {2, 10, 20, 1, 11}, {1},
            {30, 10, 1}, {11}, {2, 30, 10, 1, 11}, {1}, {41, 30, 10, 1}, {40, 11}, {2, 41, 30, 10, 1, 40, 11}, {20, 1},
            {10, 20, 1}, {11}, {50, 2, 10, 20, 1, 11}, {1}, {41, 30, 10, 1}, {60, 40, 11, 1},
            {61, 2, 41, 30, 10, 1, 60, 40, 11, 1}, {70, 1}, {10, 70, 1}, {11}, {2, 10, 70, 1, 11}, {81, 70, 1},
            {80, 10, 81, 70, 1, 11}, {11}, {2, 80, 10, 81, 70, 1, 11, 11}};
        for (int kind = 0; kind < 8; kind++) {
            for (int act = 0; act < 4; act++) {
                due.is("act(" + kind + ", " + act + ", 5)", x.act(kind, act, 5), worth[kind][act]);
                int[] ran = traces[kind * 4 + act];
                due.is("how many ran", x.count(5), ran.length);
                for (int i = 0; i < ran.length; i++) {
                    due.is("trace(" + i + ")", x.trace(i), ran[i]);
                }
                due.is("trace behind", x.trace(ran.length), BAD);
            }
        }
        due.is("wraps", x.act(1, 0, MOST), MOST + 4);
        due.is("wraps by 2", x.act(0, 1, MOST), -2);
        due.is("wraps by 3", x.act(3, 2, LEAST), (LEAST ^ 3) * 3);
        int[][] wrong = {{8, 0}, {-1, 0}, {0, 4}, {0, -1}, {MOST, 0}, {0, LEAST}};
        for (int[] one : wrong) {
            x.act(0, 0, 1);
            due.is("no such one", x.act(one[0], one[1], 1), 0);
            due.is("no trace then", x.trace(0), BAD);
            due.is("none ran", x.count(5), 0);
        }
        x.body(5);
        due.is("another of the kind", x.act(8, 0, 5), 13);
    }

    private static void traceCalls() {
        due.promise(37);
        Stylite x = Due.made();
        x.body(5);
        x.act(0, 3, 1);
        due.is("the first", x.trace(0), 61);
        due.is("the tenth", x.trace(9), 1);
        due.is("behind the last", x.trace(10), BAD);
        due.is("trace(-1)", x.trace(-1), BAD);
        due.is("trace(24)", x.trace(24), BAD);
        due.is("trace least", x.trace(LEAST), BAD);
        x.body(0);
        x.hour(1);
        x.act(1, 0, 1);
        due.is("the latest alone", x.trace(0), 1);
        due.is("the latest alone", x.trace(1), BAD);
    }

    private static void keepCalls() {
        due.promise(38);
        Stylite x = Due.made();
        due.is("no such body", x.keep(0, 0), BAD);
        x.body(4);
        x.body(7);
        Due.bytes(x, 0, 5);
        String before = Probe.seen(x);
        due.is("shelf -1", x.keep(-1, 0), BAD);
        due.is("shelf 6", x.keep(6, 0), BAD);
        due.is("body -2", x.keep(0, -2), BAD);
        due.is("body 2", x.keep(0, 2), BAD);
        due.same("a refused keep", before, Probe.seen(x));
        due.is("keep(0, 1)", x.keep(0, 1), 1);
        due.is("its kind", x.taken(0, 0), 7);
        due.is("no row any more", x.put(0, 0, 1), -12);
        due.is("keep(5, 0)", x.keep(5, 0), 1);
        due.is("its kind", x.taken(5, 0), 4);
        due.is("keep(0, -1)", x.keep(0, -1), 1);
        due.is("nothing", x.taken(0, 0), -11);
        due.is("nothing", x.put(0, 0, 1), -11);
        due.is("keep(0, -1) again", x.keep(0, -1), 1);
    }

    private static void rowCalls() {
        due.promise(39);
        Stylite x = Due.made();
        x.body(0);
        x.keep(0, 0);
        String before = Probe.seen(x);
        due.is("shelf -1", x.row(-1, 0, 1), BAD);
        due.is("shelf 6", x.row(6, 0, 1), BAD);
        due.is("sort -1", x.row(0, -1, 1), BAD);
        due.is("sort 5", x.row(0, 5, 1), BAD);
        due.is("n 61", x.row(0, 0, 61), BAD);
        due.is("n -1", x.row(0, 0, -1), -14);
        due.is("n least", x.row(0, 4, LEAST), -14);
        due.is("sort 5, n -1", x.row(0, 5, -1), BAD);
        due.is("shelf 6, n -1", x.row(6, 0, -1), BAD);
        due.same("a refused row", before, Probe.seen(x));
        for (int sort = 0; sort < 5; sort++) {
            x = Due.made();
            due.is("sixty", x.row(0, sort, 60), 1);
            for (int i = 0; i < 60; i++) {
                due.is("0 at first", x.element(0, i), 0);
                x.put(0, i, 1);
            }
            due.is("the sixty-first", x.element(0, 60), NONE);
        }
        due.is("none", x.row(0, 0, 0), 1);
        due.is("the first of none", x.element(0, 0), NONE);
        x.row(0, 0, 3);
        due.is("0 again", x.element(0, 1), 0);
    }

    private static void putCalls() {
        due.promise(40);
        Stylite x = furnished("r");
        String before = Probe.seen(x);
        due.is("shelf -1", x.put(-1, 0, 1), BAD);
        due.is("shelf 6", x.put(6, 0, 1), BAD);
        due.is("nothing", x.put(3, 0, 1), -11);
        due.is("a body", x.put(2, 0, 1), -12);
        due.is("place -1", x.put(0, -1, 1), -13);
        due.is("place 3", x.put(0, 3, 1), -13);
        due.is("place greatest", x.put(0, MOST, 1), -13);
        due.same("a refused put", before, Probe.seen(x));
        long[] told = {0, 1, 127, 128, 255, 256, 32767, 32768, 65536, 2147483647L, 2147483648L, 4294967296L,
            Long.MAX_VALUE, Long.MIN_VALUE + 1, -1, -129};
        for (int sort = 0; sort < 5; sort++) {
            x.row(4, sort, 2);
            for (long v : told) {
                long kept = sort == 0 ? (byte) v : sort == 1 ? (short) v : sort == 2 ? (int) v : sort == 3 ? v : v == 0 ? 0 : 1;
                due.is("put", x.put(4, 1, v), 1);
                due.is("sort " + sort + " of " + v, x.element(4, 1), kept);
                due.is("beside it", x.element(4, 0), 0);
            }
        }
    }

    private static void elementCalls() {
        due.promise(41);
        Stylite x = furnished("r");
        due.is("the first", x.element(0, 0), 1);
        due.is("the last", x.element(0, 2), 3);
        due.is("of ints", x.element(1, 1), 8);
        due.is("place -1", x.element(0, -1), NONE);
        due.is("place 3", x.element(0, 3), NONE);
        due.is("place least", x.element(0, LEAST), NONE);
        due.is("a body", x.element(2, 0), NONE);
        due.is("nothing", x.element(3, 0), NONE);
        due.is("shelf -1", x.element(-1, 0), NONE);
        due.is("shelf 6", x.element(6, 0), NONE);
    }

    private static void shiftCalls() {
        due.promise(42);
        Stylite x = furnished("r");
        Due.bytes(x, 4, 9, 9, 9, 9, 9);
        String before = Probe.seen(x);
        due.is("shelf -1", x.shift(-1, 0, 0, 0, 0), BAD);
        due.is("shelf 6", x.shift(6, 0, 0, 0, 0), BAD);
        due.is("other -1", x.shift(0, 0, -1, 0, 0), BAD);
        due.is("other 6", x.shift(3, 0, 6, 0, 0), BAD);
        due.is("from nothing", x.shift(3, 0, 0, 0, 0), -11);
        due.is("to nothing", x.shift(0, 0, 3, 0, 0), -11);
        due.is("a body to nothing", x.shift(2, 0, 3, 0, 0), -11);
        due.is("from a body", x.shift(2, 0, 0, 0, 0), -12);
        due.is("to a body", x.shift(0, 0, 2, 0, 0), -12);
        due.is("a body to itself", x.shift(2, 0, 2, 0, 0), -12);
        due.is("unlike sorts", x.shift(0, 0, 1, 0, -1), -12);
        due.is("n -1", x.shift(0, 0, 4, 0, -1), -13);
        due.is("i -1", x.shift(0, -1, 4, 0, 1), -13);
        due.is("j -1", x.shift(0, 0, 4, -1, 1), -13);
        due.is("too many from", x.shift(0, 1, 4, 0, 3), -13);
        due.is("too many to", x.shift(4, 0, 0, 1, 3), -13);
        due.is("i 4, none", x.shift(0, 4, 4, 0, 0), -13);
        due.is("j 6, none", x.shift(0, 0, 4, 6, 0), -13);
        due.is("n greatest", x.shift(0, 1, 4, 1, MOST), -13);
        due.is("i greatest", x.shift(0, MOST, 4, 0, 1), -13);
        due.is("j greatest", x.shift(0, 0, 4, MOST, MOST), -13);
        due.is("none at the ends", x.shift(0, 3, 4, 5, 0), 0);
        due.same("a refused shift", before, Probe.seen(x));
        due.is("all", x.shift(0, 0, 4, 1, 3), 3);
        items(x, 4, 9, 1, 2, 3, 9);
        items(x, 0, 1, 2, 3);
        Due.bytes(x, 4, 1, 2, 3, 4, 5);
        due.is("up in itself", x.shift(4, 0, 4, 1, 4), 4);
        items(x, 4, 1, 1, 2, 3, 4);
        Due.bytes(x, 4, 1, 2, 3, 4, 5);
        due.is("down in itself", x.shift(4, 1, 4, 0, 4), 4);
        items(x, 4, 2, 3, 4, 5, 5);
        Due.lay(x, 5, 4, 1, 0, 1);
        due.is("booleans", x.shift(5, 0, 5, 1, 2), 2);
        items(x, 5, 1, 1, 0);
    }

    private static void items(Stylite x, int shelf, long... all) {
        for (int i = 0; i < all.length; i++) {
            due.is("item " + i, x.element(shelf, i), all[i]);
        }
        due.is("its end", x.element(shelf, all.length), NONE);
    }

    private static void takenCalls() {
        due.promise(43);
        Stylite x = Due.made();
        int[] above = {-1, 0, 0, 2, 1, 3, 0, 6};
        for (int kind = 0; kind < 8; kind++) {
            x.body(kind);
            x.keep(0, kind);
            for (int k = 0; k < 8; k++) {
                boolean under = false;
                for (int up = kind; up >= 0; up = above[up]) {
                    under |= up == k;
                }
                due.is("kind " + kind + " as " + k, x.taken(0, k), under ? kind : -12);
            }
            due.is("k -1", x.taken(0, -1), BAD);
            due.is("k 8", x.taken(0, 8), BAD);
        }
        due.is("shelf -1", x.taken(-1, 0), BAD);
        due.is("shelf 6", x.taken(6, 0), BAD);
        due.is("nothing", x.taken(1, 0), -11);
        due.is("k 8 of nothing", x.taken(1, 8), BAD);
        x.row(0, 0, 3);
        due.is("a row", x.taken(0, 0), -12);
    }

    private static void countCalls() {
        due.promise(44);
        Stylite x = furnished("r");
        int[] all = {2, 2, 1, 1, 2, 4};
        for (int what = 0; what < 6; what++) {
            due.is("count(" + what + ")", x.count(what), all[what]);
        }
        due.is("count(-1)", x.count(-1), BAD);
        due.is("count(6)", x.count(6), BAD);
        x.undo();
        due.is("changes behind undo()", x.count(3), 0);
        x.redo();
        due.is("changes behind redo()", x.count(3), 1);
        x.law();
        due.is("the tape behind law()", x.count(2), 0);
        x.act(5, 0, 0);
        due.is("ran by no act", x.count(5), 0);
    }
}
