/** The edges of promises 10 to 18: hours in thought. Each sentence that names an edge has a test of its own. */
public final class ThoughtEdgesTest {
    private static final int BAD = -1, NOT = -2, LACKS = -11, OTHER = -12;
    private static final long NONE = Long.MIN_VALUE;
    private static final int LEAST = Integer.MIN_VALUE, MOST = Integer.MAX_VALUE;
    private static final int ANY = 1023, PLANNED = 12;

    /** He says one more at five o'clock, else what he said last: so a thing may come as late as is wanted. */
    private static final String ONE_MORE_A_DAY = "h=5?l+1;l";

    private static final Due due = new Due("ThoughtEdgesTest");

    public static void main(String[] args) {
        hoursLimits();
        hoursNone();
        hoursMood();
        hoursHunger();
        hoursHour();
        hoursLumps();
        hoursFirstLump();
        hoursRemarksThatLack();
        hoursRemarksThatAreNone();
        hoursInThought();
        oftenLimits();
        oftenBy200();
        oftenCounted();
        roundLimits();
        roundAtLeast();
        roundBy999();
        makeLimits();
        makeHours();
        makeTold();
        makeFirstByNumbers();
        reciteLimits();
        reciteEnds();
        reciteTwelve();
        reciteSure();
        reciteNoWay();
        reciteFirstByNumbers();
        waysToLimits();
        waysToMany();
        mostLimits();
        mostHours();
        mostFirstByNumbers();
        quietLimits();
        quietHours();
        quietFirstByNumbers();
        tellsMostLimits();
        tellsMostOfLikeOnes();
        due.end();
    }

    // ---- 10: hours

    private static void hoursLimits() {
        due.wantsBytes(10, "hours", (x, shelf) -> x.hours(shelf, 1, 0), BAD, LACKS, OTHER);
        due.test(10, "n hours (0 .. 200)");
        for (int n : new int[] {-1, 201, LEAST, MOST}) {
            due.badOnAnyShelf("n " + n, (x, shelf) -> x.hours(shelf, n, 1));
        }
        Stylite x = Due.ruled("h");
        x.row(0, 0, 0);
        due.is("HOUR behind 0", x.hours(0, 0, 4), 6);
        due.is("HOUR behind 1", x.hours(0, 1, 4), 7);
        due.is("HOUR behind 199", x.hours(0, 199, 4), (6 + 199) % 24);
        due.is("HOUR behind 200", x.hours(0, 200, 4), (6 + 200) % 24);
        due.test(10, "what 0 to 6");
        for (int what : new int[] {-1, 7, LEAST, MOST}) {
            due.badOnAnyShelf("what " + what, (y, shelf) -> y.hours(shelf, 1, what));
        }
    }

    private static void hoursNone() {
        due.test(10, "NOT: no hours");
        due.unchanged(Laid::furnished, "the last thing of none", x -> x.hours(Laid.BYTES, 0, 0), NOT);
        due.test(10, "no hours: as he is now");
        // furnished: MOOD 5, HUNGER 1, LAST 5, HOUR 8
        int[] now = {NOT, 5, 1, 5, 8, 0, NOT};
        for (int what = 1; what <= 6; what++) {
            int its = what;
            due.unchanged(Laid::furnished, "what " + what, x -> x.hours(Laid.BYTES, 0, its), now[what]);
        }
    }

    private static void hoursMood() {
        due.test(10, "MOOD is MOOD and THING and REMARK together, the rest of it by 16");
        int[][] moods = {{0, 0, 0}, {15, 0, 15}, {14, 1, 0}, {13, 1, 15}, {15, 1, 1}, {0, 8, 0}, {0, 7, 14}, {15, 9, 1},
            {14, 9, 0}};
        for (int[] one : moods) {
            Stylite x = Due.ruled("r");
            x.mend(0, 0, one[0]);
            Due.bytes(x, 0, one[1]);
            due.is("of " + one[0] + " and twice " + one[1], x.hours(0, 1, 1), one[2]);
        }
        Stylite x = Due.ruled("15");
        x.mend(0, 0, 15);
        Due.bytes(x, 0, 9);
        due.is("of 15, 15, 9", x.hours(0, 1, 1), 7);
        due.is("LAST is that THING", x.hours(0, 1, 3), 15);
    }

    private static void hoursHunger() {
        due.test(10, "HUNGER is more by GROWS (9 at most)");
        int[][] hungers = {{9, 0, 9}, {9, 1, 9}, {9, 3, 9}, {8, 0, 8}, {8, 1, 9}, {8, 2, 9}, {6, 3, 9}, {7, 3, 9}, {5, 3, 8},
            {0, 0, 0}, {0, 3, 3}};
        for (int[] one : hungers) {
            Stylite x = Due.made();
            x.mend(0, 1, one[0]);
            x.mend(0, 4, one[1]);
            x.row(0, 0, 0);
            due.is("of " + one[0] + " by " + one[1], x.hours(0, 1, 2), one[2]);
        }
    }

    private static void hoursHour() {
        due.test(10, "HOUR goes on (0 behind 23)");
        for (int hour = 0; hour <= 23; hour++) {
            Stylite x = Due.made();
            x.mend(0, 3, hour);
            x.row(0, 0, 0);
            due.is("behind " + hour, x.hours(0, 1, 4), hour == 23 ? 0 : hour + 1);
        }
    }

    /** Lumps in one hour in which he says the thing. */
    private static void lump(int thing, int last, int hunger, int temper, int lumps) {
        Stylite x = Due.made();
        Due.rule(x, Integer.toString(thing));
        x.mend(0, 1, hunger);
        x.mend(0, 2, last);
        x.mend(0, 6, temper);
        x.row(0, 0, 0);
        String call = thing + " behind " + last + ", HUNGER " + hunger + ", TEMPER " + temper;
        due.is(call, x.hours(0, 1, 5), lumps);
        due.is(call + ": the first", x.hours(0, 1, 6), lumps > 0 ? 0 : NOT);
    }

    private static void hoursLumps() {
        due.test(10, "a LUMP, if THING is 15");
        lump(15, 0, 0, 9, 1);
        lump(15, 15, 0, 9, 1);
        lump(15, 15, 9, 0, 1);
        lump(14, 0, 0, 9, 0);
        lump(14, 15, 9, 0, 0);
        lump(0, 15, 9, 0, 0);
        due.test(10, "or THING is LAST as it was ahead and HUNGER as it was ahead is TEMPER or more");
        lump(5, 5, 7, 7, 1);
        lump(5, 5, 6, 7, 0);
        lump(5, 5, 8, 7, 1);
        lump(5, 4, 8, 7, 0);
        lump(5, 6, 9, 0, 0);
        lump(5, 5, 0, 0, 1);
        lump(5, 5, 0, 1, 0);
        lump(5, 5, 9, 9, 1);
        lump(5, 5, 8, 9, 0);
        lump(0, 0, 7, 7, 1);
        due.test(10, "as it was ahead");
        Stylite x = Due.ruled("5");
        x.mend(0, 1, 6);
        x.mend(0, 2, 5);
        x.row(0, 0, 0);
        due.is("HUNGER by then", x.hours(0, 1, 2), 7);
        due.is("HUNGER becomes TEMPER in it", x.hours(0, 1, 5), 0);
        due.is("in the next it was so ahead", x.hours(0, 2, 5), 1);
        due.is("the first", x.hours(0, 2, 6), 1);
        x.mend(0, 2, 4);
        x.mend(0, 1, 9);
        due.is("LAST becomes THING in it", x.hours(0, 1, 5), 0);
        due.is("in the next it was so ahead", x.hours(0, 3, 5), 2);
        due.test(10, "how many LUMPS");
        x = Due.ruled("15");
        x.row(0, 0, 0);
        due.is("of 0", x.hours(0, 0, 5), 0);
        due.is("of 1", x.hours(0, 1, 5), 1);
        due.is("of 200", x.hours(0, 200, 5), 200);
    }

    /** The sixteenth thing comes behind as many hours: nine days with one more, the first of them behind seven or eight. */
    private static Stylite fifteenBehind(int hours) {
        Stylite x = Due.ruled(ONE_MORE_A_DAY);
        x.mend(0, 2, 6);
        x.mend(0, 3, 5 + 24 - (hours - 8 * 24));
        x.mend(0, 4, 0);
        x.row(0, 0, 0);
        return x;
    }

    private static void hoursFirstLump() {
        due.test(10, "the first hour (0 on) of a LUMP (NOT)");
        Stylite x = fifteenBehind(199);
        due.is("of 199 hours", x.hours(0, 199, 6), NOT);
        due.is("of 200 hours", x.hours(0, 200, 6), 199);
        due.is("lumps of 199 hours", x.hours(0, 199, 5), 0);
        due.is("lumps of 200 hours", x.hours(0, 200, 5), 1);
        due.is("a lump beyond 200 hours", fifteenBehind(200).hours(0, 200, 6), NOT);
        x = Due.ruled("15");
        x.row(0, 0, 0);
        due.is("of no hours", x.hours(0, 0, 6), NOT);
        due.is("of many", x.hours(0, 200, 6), 0);
    }

    private static void hoursRemarksThatLack() {
        due.test(10, "REMARKS: hour by hour from now on");
        Stylite x = Due.ruled("r");
        Due.bytes(x, 0, 3, 1, 2);
        due.is("the first", x.hours(0, 1, 0), 3);
        due.is("the second", x.hours(0, 2, 0), 1);
        due.is("the third", x.hours(0, 3, 0), 2);
        due.test(10, "what lacks: 0");
        due.is("the fourth of three", x.hours(0, 4, 0), 0);
        x.row(0, 0, 0);
        due.is("the first of none", x.hours(0, 1, 0), 0);
        x.row(0, 0, 60);
        x.put(0, 59, 7);
        due.is("the sixtieth of sixty", x.hours(0, 60, 0), 7);
        due.is("the sixty-first of sixty", x.hours(0, 61, 0), 0);
        due.is("the two hundredth of sixty", x.hours(0, 200, 0), 0);
    }

    private static void hoursRemarksThatAreNone() {
        due.test(10, "what is not 0 .. 9: 0");
        for (int remark : new int[] {-128, -10, -1, 0, 1, 8, 9, 10, 11, 16, 127}) {
            Stylite x = Due.ruled("r");
            Due.bytes(x, 0, remark);
            int counts = remark >= 0 && remark <= 9 ? remark : 0;
            due.is("THING by " + remark, x.hours(0, 1, 0), counts);
            due.is("MOOD by " + remark, x.hours(0, 1, 1), 2 * counts % 16);
        }
        Stylite x = Due.ruled("r");
        Due.bytes(x, 0, 10, 4, -1, 5);
        due.is("the hours go on behind it", x.hours(0, 2, 0), 4);
        due.is("the hours go on behind it", x.hours(0, 4, 0), 5);
    }

    private static void hoursInThought() {
        due.test(10, "IN THOUGHT: nothing changes");
        // furnished says MOOD and REMARK, of MOOD 5 with 1, 2, 3: 6, 14, 15
        int[] then = {15, 14, 4, 15, 11, 1, 2};
        for (int what = 0; what <= 6; what++) {
            int its = what;
            due.unchanged(Laid::furnished, "what " + what, x -> x.hours(Laid.BYTES, 3, its), then[what]);
        }
        due.unchanged(Laid::furnished, "200 hours", x -> x.hours(Laid.BYTES, 200, 4), (8 + 200) % 24);
    }

    // ---- 11: often

    private static void oftenLimits() {
        due.wantsBytes(11, "often", (x, shelf) -> x.often(shelf, 1, 0, 0), BAD, LACKS, OTHER);
        due.wantsBytes(11, "often, the first", (x, shelf) -> x.often(shelf, 1, 14, 1), BAD, LACKS, OTHER);
        due.test(11, "n hours (0 .. 200), n must be as it may be");
        for (int n : new int[] {-1, 201, LEAST, MOST}) {
            due.badOnAnyShelf("how often, n " + n, (x, shelf) -> x.often(shelf, n, 6, 0));
            due.badOnAnyShelf("the first, n " + n, (x, shelf) -> x.often(shelf, n, 6, 1));
        }
        due.test(11, "a THING (0 .. 15)");
        for (int thing : new int[] {-1, 16, LEAST, MOST}) {
            due.badOnAnyShelf("thing " + thing, (x, shelf) -> x.often(shelf, 1, thing, 0));
            due.badOnAnyShelf("the first, thing " + thing, (x, shelf) -> x.often(shelf, 1, thing, 1));
        }
        for (int thing : new int[] {0, 15}) {
            Stylite x = Due.ruled(Integer.toString(thing));
            x.row(0, 0, 0);
            due.is("thing " + thing, x.often(0, 3, thing, 0), 3);
            due.is("the first " + thing, x.often(0, 3, thing, 1), 0);
            due.is("thing " + (15 - thing), x.often(0, 3, 15 - thing, 0), 0);
            due.is("the first " + (15 - thing), x.often(0, 3, 15 - thing, 1), NOT);
        }
        due.test(11, "what 0, 1");
        for (int what : new int[] {-1, 2, LEAST, MOST}) {
            due.badOnAnyShelf("what " + what, (x, shelf) -> x.often(shelf, 1, 6, what));
        }
    }

    private static void oftenBy200() {
        due.test(11, "the first hour of a THING by 200 hours (NOT)");
        Stylite x = fifteenBehind(199);
        due.is("in the two hundredth", x.often(0, 200, 15, 1), 199);
        due.is("one later", fifteenBehind(200).often(0, 200, 15, 1), NOT);
        due.test(11, "n does not matter");
        for (int n : new int[] {0, 1, 199, 200}) {
            due.is("with n " + n, x.often(0, n, 15, 1), 199);
            due.is("with n " + n, x.often(0, n, 6, 1), 0);
        }
        due.test(11, "the first by REMARKS");
        x = Due.ruled("r");
        Due.bytes(x, 0, 4, 7, 4, 7);
        due.is("the first 7", x.often(0, 0, 7, 1), 1);
        due.is("the first 0: what lacks", x.often(0, 0, 0, 1), 4);
        due.unchanged(Laid::furnished, "of a furnished one", y -> y.often(Laid.BYTES, 0, 15, 1), 2);
    }

    private static void oftenCounted() {
        due.test(11, "in n hours how often a THING");
        Stylite x = Due.ruled("r");
        Due.bytes(x, 0, 4, 7, 4, 7);
        int[] fours = {0, 1, 1, 2, 2, 2};
        for (int n = 0; n < fours.length; n++) {
            due.is("4 in " + n, x.often(0, n, 4, 0), fours[n]);
        }
        due.is("0 in 200", x.often(0, 200, 0, 0), 196);
        due.is("0 in 199", x.often(0, 199, 0, 0), 195);
        due.unchanged(Laid::furnished, "of a furnished one", y -> y.often(Laid.BYTES, 3, 15, 0), 1);
    }

    // ---- 12: round

    private static void roundLimits() {
        due.test(12, "what 0, 1; BAD");
        for (int what : new int[] {-1, 2, LEAST, MOST}) {
            due.bad("round(" + what + ")", x -> x.round(what));
        }
        due.test(12, "IN THOUGHT: nothing changes");
        // furnished: MOOD 5, then 10, 4, 8, 0 for good; HUNGER is 9 behind eight hours
        due.unchanged(Laid::furnished, "round(0)", x -> x.round(0), 32);
        due.unchanged(Laid::furnished, "round(1)", x -> x.round(1), 8);
    }

    private static void round(String call, Stylite x, int behind, int first) {
        due.is(call, x.round(0), behind);
        due.is(call + ": for the first time", x.round(1), first);
    }

    private static void roundAtLeast() {
        due.test(12, "just as once ahead: MOOD, HUNGER, LAST, HOUR");
        Stylite x = Due.ruled("0");
        x.mend(0, 4, 0);
        round("HOUR alone goes on", x, 24, 0);
        x.mend(0, 2, 1);
        round("LAST is another once", x, 25, 1);
        x = Due.ruled("0");
        round("HUNGER grows to 9", x, 33, 9);
        x.mend(0, 1, 8);
        round("HUNGER grows from 8", x, 25, 1);
        x.mend(0, 1, 9);
        round("HUNGER is 9", x, 24, 0);
        x.mend(0, 1, 0);
        x.mend(0, 4, 3);
        round("HUNGER grows by 3", x, 27, 3);
        x = Due.ruled("8*(h=23)");
        x.mend(0, 1, 9);
        round("MOOD is so each second day, LAST was 0", x, 48, 0);
        x = Due.ruled("m=3");
        x.mend(0, 4, 0);
        x.mend(0, 0, 3);
        round("MOOD is another once, and LAST", x, 26, 2);
        due.test(12, "MOOD less and HUNGER more is not the same");
        x = Due.ruled("8*(h=12)");
        x.mend(0, 0, 8);
        x.mend(0, 1, 1);
        round("8 less and 8 more", x, 56, 8);
        x = Due.ruled("15*(h=12)");
        x.mend(0, 0, 1);
        round("1 less and 9 more", x, 393, 9);
        due.test(12, "behind how many he was so for the first time");
        // one more at five o'clock, for nine days; MOOD is so again each 16 hours
        x = Due.ruled("h=5&l<9?l+1;l");
        x.mend(0, 4, 0);
        round("nine days first", x, 9 * 24 + 48, 9 * 24);
        x.mend(0, 2, 8);
        round("one day first", x, 24 + 48, 24);
        x.mend(0, 3, 5);
        round("one hour first", x, 1 + 48, 1);
    }

    private static void roundBy999() {
        String text = "(m+8)*(l+9)/8"; // found by a search: a way of 16 hours into a round of 984
        due.test(12, "NOT: not by 999");
        Stylite x = Due.ruled(text);
        x.mend(0, 4, 0);
        x.mend(0, 0, 6);
        x.mend(0, 2, 7);
        round("behind 1000", x, NOT, NOT);
        due.test(12, "behind how many hours at least (1 .. 999)");
        x.hour(0);
        round("behind 999", x, 999, 15);
        x.hour(0);
        round("behind 998", x, 998, 14);
    }

    // ---- 13: make

    private static int told(int thing, int bits) {
        return thing * 1024 + bits;
    }

    private static void makeLimits() {
        due.test(13, "1024 times the THING, and bits of REMARKS");
        for (int tr : new int[] {-1, 16384, -1024, LEAST, MOST}) {
            due.bad("make(" + tr + ", -1)", x -> x.make(tr, -1));
            due.bad("make(" + tr + ", 0)", x -> x.make(tr, 0));
        }
        Stylite x = Due.ruled("r+6");
        due.is("THING 15, all REMARKS", x.make(16383, -1), 1);
        due.is("THING 15, all REMARKS: 9", x.make(16383, 0), 9);
        due.is("THING 0, none told", Due.ruled("0").make(0, -1), 1);
        due.test(13, "how many hours (k -1), the k-th REMARK");
        for (int k : new int[] {-2, -3, LEAST}) {
            due.bad("k " + k, y -> y.make(told(6, 2), k));
            due.bad("k " + k + " of what he does not say", y -> y.make(told(7, 0), k));
        }
        due.test(13, "NOT: there are not as many, too");
        due.is("the second of one", x.make(16383, 1), NOT);
        due.is("the twelfth of one", x.make(16383, 11), NOT);
        due.is("far beyond", x.make(16383, MOST), NOT);
        due.test(13, "IN THOUGHT: nothing changes");
        due.unchanged(Laid::furnished, "make", y -> y.make(told(6, 2), -1), 1);
        due.unchanged(Laid::furnished, "its REMARK", y -> y.make(told(6, 2), 0), 1);
        due.unchanged(Laid::furnished, "not", y -> y.make(told(1, 2), -1), NOT);
    }

    private static void makeHours() {
        due.test(13, "the fewest hours (1 .. 12)");
        Stylite x = Due.ruled("h"); // HOUR is 6 now; 16, 17, 18 are 0, 1, 2
        due.is("now", x.make(told(6, 0), -1), 1);
        due.is("in the tenth", x.make(told(15, 0), -1), 10);
        due.is("in the eleventh", x.make(told(0, 0), -1), 11);
        due.is("in the twelfth", x.make(told(1, 0), -1), 12);
        due.is("the twelfth's REMARK", x.make(told(1, ANY - 1), 11), 1);
        due.is("the thirteenth of twelve", x.make(told(1, ANY), 12), NOT);
        due.test(13, "NOT");
        due.is("in the thirteenth", x.make(told(2, 0), -1), NOT);
        due.is("in the thirteenth: its REMARK", x.make(told(2, 0), 0), NOT);
        due.is("never", x.make(told(5, ANY), -1), NOT);
        x.hour(0);
        due.is("a hour later", x.make(told(2, 0), -1), 12);
    }

    private static void makeTold() {
        due.test(13, "bit 0: none; without any: only none");
        Stylite x = Due.ruled("r");
        due.is("0 without any", x.make(told(0, 0), -1), 1);
        due.is("0 without any: 0", x.make(told(0, 0), 0), 0);
        due.is("1 without any", x.make(told(1, 0), -1), NOT);
        due.is("0 by bit 0", x.make(told(0, 1), -1), 1);
        due.is("1 by bit 0", x.make(told(1, 1), -1), NOT);
        due.is("0 without bit 0", x.make(told(0, ANY - 1), -1), NOT);
        due.test(13, "each with a REMARK of told ones");
        for (int remark = 0; remark <= 9; remark++) {
            due.is("by " + remark + " alone", x.make(told(remark, 1 << remark), -1), 1);
            due.is("by " + remark + " alone: it", x.make(told(remark, 1 << remark), 0), remark);
            due.is("by all but " + remark, x.make(told(remark, ANY - (1 << remark)), -1), NOT);
        }
        due.is("9 by all", x.make(told(9, ANY), 0), 9);
        due.is("10 by all", x.make(told(10, ANY), -1), NOT);
    }

    private static void makeFirstByNumbers() {
        due.test(13, "of like ones the first by numbers, hour by hour");
        // MOOD is said, then doubled with the REMARK: behind a and b it is 2a + b
        Stylite x = Due.ruled("m");
        due.is("15 by 0 to 7", x.make(told(15, 255), -1), 3);
        int[] remarks = {4, 7, 0, NOT};
        for (int k = 0; k < remarks.length; k++) {
            due.is("15 by 0 to 7, hour " + k, x.make(told(15, 255), k), remarks[k]);
        }
        due.is("15 by 1 to 7, hour 2", x.make(told(15, 254), 2), 1);
        due.is("15 by 3 and 5, hour 0", x.make(told(15, 40), 0), 5);
        due.is("15 by 3, 5, 6, hour 0", x.make(told(15, 104), 0), 5);
        due.is("15 by 3, 5, 6, hour 1", x.make(told(15, 104), 1), 5);
        due.is("15 by 3, 6, hour 0", x.make(told(15, 72), 0), 6);
        due.is("15 by 3, 6, hour 1", x.make(told(15, 72), 1), 3);
        due.is("15 by 3, 6, hour 2", x.make(told(15, 72), 2), 3);
        due.test(13, "by what he said last, HUNGER, HOUR, TEMPER");
        x = Due.ruled("l+r+(l>9)");
        due.is("15 by 7: 7, 14, 22", x.make(told(6, 128), -1), 3);
        due.is("15 by 8: 8, 0", x.make(told(0, 256), -1), 2);
        due.is("9 and 6 and one more", x.make(told(15, 512 + 64), -1), 2);
        due.is("9 and 6 and one more: 6 first", x.make(told(15, 512 + 64), 0), 6);
        due.is("g", Due.ruled("g*r").make(told(9, 8), -1), 4);
        due.is("t", Due.ruled("t*r").make(told(14, 4), -1), 1);
        due.test(13, "the last of which he says a THING in: in no fewer");
        x = Due.ruled("m");
        due.is("4 by 2", x.make(told(4, 4), -1), NOT);
        due.is("6 by 2", x.make(told(6, 4), -1), 3);
        due.is("0 at once", x.make(told(0, ANY), -1), 1);
    }

    // ---- 14: recite

    private static Stylite reciting(String text, long... phrase) {
        Stylite x = Due.ruled(text);
        Due.bytes(x, 0, phrase);
        return x;
    }

    private static void reciteLimits() {
        due.wantsBytes(14, "recite", (x, shelf) -> x.recite(shelf, -1), BAD, LACKS, OTHER);
        due.wantsBytes(14, "recite, the first", (x, shelf) -> x.recite(shelf, 0), BAD, LACKS, OTHER);
        due.wantsBytes(14, "recite, sure", (x, shelf) -> x.recite(shelf, -2), BAD, LACKS, OTHER);
        due.test(14, "whether (k -1), the k-th REMARK (k 0 on), how many sure (-2)");
        for (int k : new int[] {-3, -4, LEAST}) {
            due.badOnAnyShelf("k " + k, (x, shelf) -> x.recite(shelf, k));
        }
        due.test(14, "IN THOUGHT: nothing changes");
        // furnished says MOOD and REMARK, of MOOD 5: 9 by 4, then of 2: 8 by 6, of 0: 7 by 7, of 14: 6 by 8, of 12: 5 by 9
        int[] remarks = {4, 6, 7, 8, 9, NOT};
        for (int k = 0; k < remarks.length; k++) {
            int its = k;
            due.unchanged(Laid::furnished, "k " + k, x -> x.recite(Laid.OTHER_BYTES, its), remarks[k]);
        }
        due.unchanged(Laid::furnished, "whether", x -> x.recite(Laid.OTHER_BYTES, -1), 1);
        due.unchanged(Laid::furnished, "sure", x -> x.recite(Laid.OTHER_BYTES, -2), 5);
        due.unchanged(Laid::furnished, "whether not", x -> x.recite(Laid.BYTES, -1), 0);
    }

    private static void reciteEnds() {
        for (int none : new int[] {16, 17, 127, -1, -128}) {
            due.test(14, "it ends with what is none: " + none);
            Stylite x = reciting("r", 4, none, 10);
            due.is("whether", x.recite(0, -1), 1);
            due.is("the first", x.recite(0, 0), 4);
            due.is("no second", x.recite(0, 1), NOT);
            due.is("one sure", x.recite(0, -2), 1);
        }
        due.test(14, "a ROW of bytes without THINGS");
        for (Stylite x : new Stylite[] {reciting("r"), reciting("r", 16, 4), reciting("r", -1, 10)}) {
            due.is("whether", x.recite(0, -1), 1);
            due.is("the first", x.recite(0, 0), NOT);
            due.is("none sure", x.recite(0, -2), 0);
        }
        due.test(14, "THINGS 0 .. 15");
        due.is("15 is one", reciting("15", 15).recite(0, -2), 0);
        due.is("15 is one", reciting("15", 15).recite(0, 0), 0);
        due.is("0 is one", reciting("r", 0).recite(0, -2), 1);
    }

    private static void reciteTwelve() {
        due.test(14, "THINGS, 12 at most");
        Stylite x = reciting("r", 1, 2, 3, 4, 5, 6, 7, 8, 9, 1, 2, 3);
        due.is("twelve", x.recite(0, -1), 1);
        due.is("twelve sure", x.recite(0, -2), 12);
        due.is("the twelfth", x.recite(0, 11), 3);
        due.is("no thirteenth", x.recite(0, 12), NOT);
        x = reciting("r", 1, 2, 3, 4, 5, 6, 7, 8, 9, 1, 2, 10);
        due.is("the twelfth counts", x.recite(0, -1), 0);
        x = reciting("r", 1, 2, 3, 4, 5, 6, 7, 8, 9, 1, 2, 3, 10);
        due.is("the thirteenth does not", x.recite(0, -1), 1);
        due.is("the thirteenth does not: sure", x.recite(0, -2), 12);
        due.is("the thirteenth does not: k 12", x.recite(0, 12), NOT);
        x.row(0, 0, 60);
        due.is("sixty", x.recite(0, -2), 12);
        due.is("sixty, k 12", x.recite(0, 12), NOT);
    }

    private static void reciteSure() {
        due.test(14, "how many of the hours' REMARKS are sure (alike in all)");
        due.is("all", reciting("r", 1, 2, 3).recite(0, -2), 3);
        due.is("none", reciting("0", 0, 0, 0).recite(0, -2), 0);
        due.is("9 alone gives 1", reciting("r/9", 1, 0, 1, 0).recite(0, -2), 2);
        // MOOD is said, then doubled with the REMARK: only the last one is free
        due.is("all but the last", reciting("m", 0, 7, 15).recite(0, -2), 2);
        // MOOD without its lowest bit is said: MOOD is 6 or 7 by the first REMARK, 14 or 15 by 2 or 3 behind 6, 1 or 2 behind 7
        due.is("2 is in many ways, not in all", reciting("m/2*2", 0, 6, 14).recite(0, -2), 0);
        // 1 is said by MOOD 9 alone, which is both REMARKS together: nine ways, of which each has the second told by the first
        due.is("told by another is not sure", reciting("m=9", 0, 0, 1).recite(0, -2), 0);
        due.is("nine ways, ten by the last", reciting("m=9", 0, 0, 1).waysTo(0), 90);
        due.test(14, "sure of those ways alone by which he says all of them");
        // every REMARK says 0 now, but 1 is said by MOOD 4 alone
        due.is("a later thing tells an earlier REMARK", reciting("m=4", 0, 1).recite(0, -2), 1);
        due.is("it", reciting("m=4", 0, 1).recite(0, 0), 4);
    }

    private static void reciteNoWay() {
        due.test(14, "NOT: no way");
        for (int k : new int[] {-2, 0, 1, 2, MOST}) {
            due.is("k " + k, reciting("r", 1, 10).recite(0, k), NOT);
        }
        due.is("whether", reciting("r", 1, 10).recite(0, -1), 0);
        due.is("whether at once", reciting("r", 10, 1).recite(0, -1), 0);
        due.test(14, "NOT: a k-th beyond the last");
        due.is("k 2 of two", reciting("r", 1, 2).recite(0, 2), NOT);
        due.is("k greatest", reciting("r", 1, 2).recite(0, MOST), NOT);
    }

    private static void reciteFirstByNumbers() {
        due.test(14, "REMARKS (any 0 .. 9); of like ones the first by numbers");
        Stylite x = reciting("r/2", 0, 1, 4);
        due.is("of 0 and 1", x.recite(0, 0), 0);
        due.is("of 2 and 3", x.recite(0, 1), 2);
        due.is("of 8 and 9", x.recite(0, 2), 8);
        x = reciting("r/9", 1, 1);
        due.is("9 alone", x.recite(0, 0), 9);
        // behind a and b MOOD is 2a + b: 15 needs 3 and 9 at the least
        x = reciting("m/15", 0, 0, 1);
        due.is("the least that may go on", x.recite(0, 0), 6);
        due.is("then the only one", x.recite(0, 1), 9);
        due.test(14, "from now: MOOD, HUNGER, LAST, HOUR, TEMPER as they are");
        x = reciting("m*5+g*3+l*7+h+t*9+r", 14, 3);
        int[] now = {3, 5, 2, 20, 1};
        int[] whats = {0, 1, 2, 3, 6};
        for (int i = 0; i < whats.length; i++) {
            x.mend(0, whats[i], now[i]);
        }
        // 15 + 15 + 14 + 20 + 9 is 9: 14 by 5; then MOOD is 6: 30 + 18 + 98 + 21 + 9 is 0: 3 by 3
        due.is("whether", x.recite(0, -1), 1);
        due.is("the first", x.recite(0, 0), 5);
        due.is("the second", x.recite(0, 1), 3);
        due.is("sure", x.recite(0, -2), 2);
        due.is("ways", x.waysTo(0), 1);
        due.test(14, "HUNGER, HOUR, LAST go on hour by hour");
        due.is("h and g and l", reciting("(g=2)*2+(h=8)*4+l", 0, 0, 6, 6).recite(0, -1), 1);
        due.is("t stays", reciting("t", 7, 7, 7).recite(0, -1), 1);
    }

    // ---- 15: waysTo

    private static void waysToLimits() {
        due.wantsBytes(15, "waysTo", (x, shelf) -> x.waysTo(shelf), NONE, NONE, NONE);
        due.test(15, "IN THOUGHT: nothing changes");
        due.unchanged(Laid::furnished, "one way", x -> x.waysTo(Laid.OTHER_BYTES), 1);
        due.unchanged(Laid::furnished, "no way", x -> x.waysTo(Laid.BYTES), 0);
    }

    private static void waysToMany() {
        due.test(15, "how many such ways, all REMARKS counted");
        due.is("of no things", reciting("r").waysTo(0), 1);
        due.is("of what is none", reciting("r", 16).waysTo(0), 1);
        due.is("one", reciting("r", 4).waysTo(0), 1);
        due.is("ten", reciting("0", 0).waysTo(0), 10);
        due.is("none", reciting("0", 1).waysTo(0), 0);
        due.is("nine and one", reciting("r/9", 0, 1, 0).waysTo(0), 81);
        due.is("the last is free", reciting("m", 0, 7, 15).waysTo(0), 10);
        due.test(15, "a long: more than an int has");
        due.is("ten to the 9", reciting("0", 0, 0, 0, 0, 0, 0, 0, 0, 0).waysTo(0), 1000000000L);
        due.is("ten to the 10", reciting("0", 0, 0, 0, 0, 0, 0, 0, 0, 0, 0).waysTo(0), 10000000000L);
        due.is("nine to the 12", reciting("r/9", 0, 0, 0, 0, 0, 0, 0, 0, 0, 0, 0, 0).waysTo(0), 282429536481L);
        due.test(15, "THINGS, 12 at most");
        Stylite x = Due.ruled("0");
        x.row(0, 0, 11);
        due.is("eleven", x.waysTo(0), 100000000000L);
        x.row(0, 0, 12);
        due.is("twelve", x.waysTo(0), 1000000000000L);
        x.row(0, 0, 13);
        due.is("thirteen", x.waysTo(0), 1000000000000L);
        x.put(0, 12, 1);
        due.is("a thirteenth he does not say", x.waysTo(0), 1000000000000L);
        x.row(0, 0, 60);
        due.is("sixty", x.waysTo(0), 1000000000000L);
    }

    // ---- 16: most

    private static void mostLimits() {
        due.test(16, "a told set (bits 0 .. 65535)");
        for (int set : new int[] {-1, 65536, LEAST, MOST}) {
            due.bad("set " + set, x -> x.most(set, 1024, -1));
            due.bad("set " + set + ", k 0", x -> x.most(set, 1024, 0));
        }
        due.is("set 0", Due.ruled("15").most(0, 2048, -1), 0);
        due.is("set 1", Due.ruled("0").most(1, 2048, -1), 2);
        due.is("set 32768", Due.ruled("15").most(32768, 2048, -1), 2);
        due.is("set 32767", Due.ruled("15").most(32767, 2048, -1), 0);
        due.is("set 65535", Due.ruled("r").most(65535, 2048 + ANY, -1), 2);
        planLimits(16, (x, nr, k) -> x.most(64, nr, k));
        due.test(16, "IN THOUGHT: nothing changes");
        due.unchanged(Laid::furnished, "most", x -> x.most(64, 1024 + 2, -1), 1);
        due.unchanged(Laid::furnished, "its REMARK", x -> x.most(64, 1024 + 2, 0), 1);
    }

    private interface Plan {
        int of(Stylite x, int nr, int k);
    }

    /** The limits that most and quiet have alike. */
    private static void planLimits(int promise, Plan plan) {
        due.test(promise, "n hours (1 .. 12); 1024 n, and bits of REMARKS");
        for (int nr : new int[] {0, 1, 1023, 13 * 1024, 13 * 1024 + 1, -1, -1024, LEAST, MOST}) {
            due.bad("nr " + nr, x -> plan.of(x, nr, -1));
            due.bad("nr " + nr + ", k 0", x -> plan.of(x, nr, 0));
        }
        for (int n = 1; n <= PLANNED; n++) {
            Stylite x = Due.ruled("r");
            due.is("the last of " + n + " hours", plan.of(x, n * 1024 + 8, n - 1), 3);
            due.is("one more", plan.of(x, n * 1024 + 8, n), NOT);
        }
        due.test(promise, "that (k -1), the k-th REMARK (NOT)");
        for (int k : new int[] {-2, LEAST}) {
            due.bad("k " + k, x -> plan.of(x, 1024, k));
        }
        due.is("far beyond", plan.of(Due.ruled("r"), 12 * 1024 + ANY, MOST), NOT);
        due.is("the thirteenth", plan.of(Due.ruled("r"), 12 * 1024 + ANY, 12), NOT);
        due.test(promise, "bits 0 .. 1023; bit 0: none; without any: only none");
        Stylite x = Due.ruled("6");
        int[][] leasts = {{0, 0}, {1, 0}, {2, 1}, {6, 1}, {1023, 0}, {1022, 1}, {512, 9}, {768, 8}};
        for (int[] one : leasts) {
            due.is("the least of " + one[0], plan.of(x, 2048 + one[0], 1), one[1]);
        }
    }

    private static void mostHours() {
        due.test(16, "the greatest number in which he may say THINGS of a told set");
        Stylite x = Due.ruled("r");
        for (int n = 1; n <= PLANNED; n++) {
            due.is("9 in " + n, x.most(512, n * 1024 + ANY, -1), n);
            due.is("9 in " + n + " without 9", x.most(512, n * 1024 + 511, -1), 0);
        }
        due.is("0 without any", x.most(1, 12 * 1024, -1), 12);
        due.is("1 without any", x.most(2, 12 * 1024, -1), 0);
        due.is("0 without bit 0", x.most(1, 12 * 1024 + ANY - 1, -1), 0);
        x = Due.ruled("h"); // HOUR is 6 now
        due.is("17 in 11 hours", x.most(2, 11 * 1024, -1), 0);
        due.is("17 in 12 hours", x.most(2, 12 * 1024, -1), 1);
        due.is("6 in 1 hour", x.most(64, 1024, -1), 1);
        due.is("all but 6", x.most(65535 - 64, 12 * 1024, -1), 11);
    }

    private static void mostFirstByNumbers() {
        due.test(16, "the REMARK of the k-th hour (of like ones the first by numbers)");
        // MOOD is said, then doubled with the REMARK
        Stylite x = Due.ruled("m");
        due.is("15 in 3", x.most(32768, 3 * 1024 + ANY, -1), 1);
        int[] three = {3, 9, 0};
        for (int k = 0; k < 3; k++) {
            due.is("15 in 3, hour " + k, x.most(32768, 3 * 1024 + ANY, k), three[k]);
        }
        due.is("15 in 4", x.most(32768, 4 * 1024 + ANY, -1), 2);
        int[] four = {3, 9, 1, 0};
        for (int k = 0; k < 4; k++) {
            due.is("15 in 4, hour " + k, x.most(32768, 4 * 1024 + ANY, k), four[k]);
        }
        due.is("15 in 2", x.most(32768, 2 * 1024 + ANY, -1), 0);
        due.is("15 in 2: none helps, so 0", x.most(32768, 2 * 1024 + ANY, 0), 0);
        x = Due.ruled("r");
        due.is("of 3 and 5 the first", x.most(40, 12 * 1024 + ANY, 11), 3);
        due.is("of 5 and 9, without 5", x.most(544, 12 * 1024 + ANY - 32, 11), 9);
    }

    // ---- 17: quiet

    private static void quietLimits() {
        planLimits(17, (x, nr, k) -> x.quiet(nr, k));
        due.test(17, "IN THOUGHT: nothing changes");
        due.unchanged(Laid::furnished, "quiet", x -> x.quiet(1024 + 2, -1), 0);
        due.unchanged(Laid::furnished, "its REMARK", x -> x.quiet(1024 + 2, 0), 1);
    }

    private static void quietHours() {
        due.test(17, "likewise fewest LUMPS");
        Stylite x = Due.ruled("15");
        for (int n = 1; n <= PLANNED; n++) {
            due.is("15 in " + n, x.quiet(n * 1024 + ANY, -1), n);
        }
        x = Due.ruled("0");
        for (int n = 1; n <= PLANNED; n++) {
            due.is("HUNGER is 7 in the eighth hour, of " + n, x.quiet(n * 1024, -1), Math.max(0, n - 7));
        }
        x = Due.ruled("r");
        x.mend(0, 6, 0);
        due.is("0 behind 0 alone", x.quiet(12 * 1024 + 1, -1), 12);
        due.is("1 behind 0, then behind 1", x.quiet(12 * 1024 + 2, -1), 11);
        due.is("by turns", x.quiet(12 * 1024 + 3, -1), 0);
        x = Due.ruled("h+r*5");
        due.is("15 by 15 hours or by 9 and 6", x.quiet(10 * 1024 + ANY, -1), 0);
        due.is("15 in the tenth", x.quiet(10 * 1024, -1), 1);
    }

    private static void quietFirstByNumbers() {
        due.test(17, "the REMARK of the k-th hour (of like ones the first by numbers)");
        Stylite x = Due.ruled("r");
        x.mend(0, 6, 0);
        for (int k = 0; k < PLANNED; k++) {
            due.is("0 and 1 by turns, hour " + k, x.quiet(12 * 1024 + 3, k), k % 2 == 0 ? 1 : 0);
            due.is("3 and 5 by turns, hour " + k, x.quiet(12 * 1024 + 40, k), k % 2 == 0 ? 3 : 5);
        }
        x = Due.ruled("r*5");
        x.mend(0, 6, 0);
        due.is("15 by 3, 4 by 4", x.quiet(1024 + 24, -1), 0);
        due.is("15 by 3, 4 by 4: 4", x.quiet(1024 + 24, 0), 4);
        due.is("one lump of two hours", x.quiet(2048 + 24, -1), 1);
        due.is("3 and then 4 comes first", x.quiet(2048 + 24, 0), 3);
        due.is("3 and then 4 comes first", x.quiet(2048 + 24, 1), 4);
    }

    // ---- 18: tellsMost

    private static void tellsMostLimits() {
        due.test(18, "the next n hours (1 .. 12)");
        for (int n : new int[] {0, 13, -1, LEAST, MOST}) {
            due.bad("n " + n, x -> x.tellsMost(n, 0));
            due.bad("n " + n + ", in how many", x -> x.tellsMost(n, 1));
        }
        Stylite x = Due.ruled("r");
        for (int n = 1; n <= PLANNED; n++) {
            due.is("all but the first of " + n, x.tellsMost(n, 1), n - 1);
            due.is("the least, of " + n, x.tellsMost(n, 0), 1);
        }
        due.test(18, "it (what 0), in how many (1)");
        for (int what : new int[] {-1, 2, LEAST, MOST}) {
            due.bad("what " + what, y -> y.tellsMost(1, what));
        }
        due.test(18, "IN THOUGHT: nothing changes");
        due.unchanged(Laid::furnished, "it", y -> y.tellsMost(1, 0), 1);
        due.unchanged(Laid::furnished, "in how many", y -> y.tellsMost(1, 1), 0);
    }

    private static void tellsMostOfLikeOnes() {
        due.test(18, "which REMARK (1 .. 9) .. agree in fewest places");
        for (int remark = 1; remark <= 9; remark++) {
            Stylite x = Due.ruled("r=" + remark + "|l");
            due.is("it is " + remark, x.tellsMost(12, 0), remark);
            due.is("in no place, by " + remark, x.tellsMost(12, 1), 0);
        }
        due.is("one of which more hours tell", Due.ruled("r=2?1;r=5?8;l=8?8;0").tellsMost(3, 0), 5);
        due.is("in how many of three", Due.ruled("r=2?1;r=5?8;l=8?8;0").tellsMost(3, 1), 0);
        due.is("10 is none", Due.ruled("r=10|l").tellsMost(12, 0), 1);
        due.is("10 is none: all agree", Due.ruled("r=10|l").tellsMost(12, 1), 12);
        due.is("9 alone, by HOUR", Due.ruled("h+r/9").tellsMost(12, 0), 9);
        due.is("9 alone, by HOUR: all but the first", Due.ruled("h+r/9").tellsMost(12, 1), 11);
        due.is("4 alone, by HUNGER and TEMPER", Due.ruled("g*t+(r=4)").tellsMost(12, 0), 4);
        due.is("4 alone, by HUNGER and TEMPER: all but the first", Due.ruled("g*t+(r=4)").tellsMost(12, 1), 11);
        due.test(18, "put in now once");
        due.is("in the first hour alone", Due.ruled("r").tellsMost(12, 1), 11);
        due.test(18, "of like ones the least");
        due.is("all alike in all places", Due.ruled("0").tellsMost(12, 0), 1);
        due.is("all alike in all places", Due.ruled("0").tellsMost(12, 1), 12);
        due.is("of 8 and 9", Due.ruled("r>7").tellsMost(3, 0), 8);
        due.is("of 8 and 9", Due.ruled("r>7").tellsMost(3, 1), 2);
    }
}
