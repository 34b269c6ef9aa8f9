/** The edges of promises 28 to 34: in deed, the image, changes. Each sentence that names an edge has a test of its own. */
public final class DeedEdgesTest {
    private static final int BAD = -1, STATE = -5;
    private static final int LEAST = Integer.MIN_VALUE, MOST = Integer.MAX_VALUE;
    private static final int KEPT = Laid.CHANGES;

    private static final Due due = new Due("DeedEdgesTest");

    public static void main(String[] args) {
        hourLimits();
        hourMood();
        hourHungerAndHour();
        hourLumps();
        hourSells();
        hourIsNoChange();
        fedLimits();
        fedToNothing();
        fedIsNoChange();
        ledLimits();
        ledCounts();
        imageKept();
        imageOfTheLatest();
        backWithout();
        backLaysBack();
        backLeavesTheRest();
        backAgain();
        undoNone();
        undoLatestFirst();
        undoOfSeveral();
        undoForty();
        undoBehindDeeds();
        redoNone();
        redoLatestFirst();
        redoUnlessAnotherCame();
        redoForty();
        due.end();
    }

    // ---- 28: hour

    private static void hourLimits() {
        due.test(28, "AN HOUR with a REMARK (0 .. 9)");
        for (int remark : new int[] {-1, 10, LEAST, MOST}) {
            due.bad("hour(" + remark + ")", x -> x.hour(remark));
        }
        for (int remark = 0; remark <= 9; remark++) {
            due.is("hour(" + remark + ")", Due.ruled("r").hour(remark), remark);
        }
    }

    private static void hourMood() {
        due.test(28, "MOOD is MOOD and THING and REMARK together, the rest of it by 16; LAST is that THING");
        int[][] moods = {{0, 0, 0}, {15, 0, 15}, {14, 1, 0}, {13, 1, 15}, {0, 8, 0}, {0, 7, 14}, {15, 9, 1}};
        for (int[] one : moods) {
            Stylite x = Due.ruled("r");
            x.mend(0, 0, one[0]);
            x.mend(0, 2, 12);
            due.is("the THING", x.hour(one[1]), one[1]);
            due.is("MOOD of " + one[0] + " and twice " + one[1], x.of(0, 0), one[2]);
            due.is("LAST", x.of(0, 2), one[1]);
        }
        Stylite x = Due.ruled("15");
        x.mend(0, 0, 15);
        due.is("the THING", x.hour(9), 31);
        due.is("MOOD of 15, 15, 9", x.of(0, 0), 7);
        due.is("LAST", x.of(0, 2), 15);
    }

    private static void hourHungerAndHour() {
        due.test(28, "HUNGER is more by GROWS (9 at most)");
        int[][] hungers = {{9, 0, 9}, {9, 1, 9}, {9, 3, 9}, {8, 1, 9}, {8, 2, 9}, {6, 3, 9}, {7, 3, 9}, {5, 3, 8}, {0, 0, 0},
            {0, 3, 3}};
        for (int[] one : hungers) {
            Stylite x = Due.made();
            x.mend(0, 1, one[0]);
            x.mend(0, 4, one[1]);
            x.hour(0);
            due.is("HUNGER of " + one[0] + " by " + one[1], x.of(0, 1), one[2]);
        }
        due.test(28, "HOUR goes on (0 behind 23)");
        for (int hour : new int[] {0, 1, 21, 22, 23}) {
            Stylite x = Due.made();
            x.mend(0, 3, hour);
            x.hour(0);
            due.is("HOUR behind " + hour, x.of(0, 3), hour == 23 ? 0 : hour + 1);
        }
    }

    private static void lump(int thing, int last, int hunger, int temper, int answer) {
        Stylite x = Due.made();
        Due.rule(x, Integer.toString(thing));
        x.mend(0, 1, hunger);
        x.mend(0, 2, last);
        x.mend(0, 6, temper);
        String call = thing + " behind " + last + ", HUNGER " + hunger + ", TEMPER " + temper;
        due.is(call, x.hour(0), answer);
        due.is(call + ": LUMPS", x.led(1), answer / 16);
    }

    private static void hourLumps() {
        due.test(28, "the THING, 16 more if it is a LUMP");
        lump(15, 0, 0, 9, 31);
        lump(14, 0, 0, 9, 14);
        lump(0, 0, 9, 9, 16);
        lump(0, 1, 9, 9, 0);
        lump(5, 5, 7, 7, 21);
        lump(5, 5, 6, 7, 5);
        lump(5, 5, 9, 7, 21);
        lump(5, 4, 9, 7, 5);
        lump(5, 5, 0, 0, 21);
        lump(5, 5, 0, 1, 5);
        lump(5, 5, 8, 9, 5);
        lump(15, 15, 9, 0, 31);
        due.test(28, "as it was ahead");
        Stylite x = Due.ruled("5");
        x.mend(0, 1, 6);
        due.is("LAST becomes it in this hour", x.hour(0), 5);
        due.is("LAST was it ahead", x.hour(0), 21);
        x = Due.ruled("5");
        x.mend(0, 2, 5);
        x.mend(0, 1, 6);
        due.is("HUNGER becomes TEMPER in this hour", x.hour(0), 5);
        due.is("HUNGER was TEMPER ahead", x.hour(0), 21);
    }

    private static void hourSells() {
        due.test(28, "each STALL sells by it");
        Stylite x = Due.ruled("r+6*(r=9)");
        x.stall(1, 1);
        x.stall(32768, 20);
        x.stall(65535, 40);
        x.hour(0);
        due.is("pence by 0", x.led(3), 41);
        x.hour(1);
        due.is("pence by 1", x.led(3), 81);
        x.hour(9);
        due.is("pence by 15", x.led(3), 141);
        due.is("sold by the first", x.of(0, 11), 1);
        due.is("sold by the second", x.of(1, 11), 1);
        due.is("sold by the third", x.of(2, 11), 3);
        due.test(28, "its CELL is no more than LOUD");
        x.mend(2, 9, 5);
        x.hour(1);
        due.is("CELL 5, LOUD 5", x.of(2, 11), 4);
        x.mend(2, 9, 6);
        x.hour(1);
        due.is("CELL 6, LOUD 5", x.of(2, 11), 4);
        due.is("pence", x.led(3), 181);
        x.mend(0, 5, 9);
        x.mend(2, 9, 9);
        x.hour(1);
        due.is("CELL 9, LOUD 9", x.of(2, 11), 5);
        x.mend(0, 5, 0);
        x.mend(2, 9, 1);
        x.hour(1);
        due.is("CELL 1, LOUD 0", x.of(2, 11), 5);
        x.mend(2, 9, 0);
        x.hour(1);
        due.is("CELL 0, LOUD 0", x.of(2, 11), 6);
        due.test(28, "six STALLS, PRICE 99");
        x = Due.made();
        for (int i = 0; i < 6; i++) {
            x.stall(65535, 99);
        }
        x.hour(0);
        due.is("pence", x.led(3), 594);
        due.is("sold by the sixth", x.of(5, 11), 1);
    }

    private static void hourIsNoChange() {
        due.test(28, "deeds are none (MOOD, HUNGER, LAST, HOUR by them, too)");
        Stylite x = Due.made();
        x.hour(9);
        due.is("changes", x.count(3), 0);
        due.is("undo", x.undo(), STATE);
        x.mend(0, 5, 6);
        x.mend(0, 5, 7);
        x.undo();
        x.hour(9);
        due.is("changes", x.count(3), 1);
        due.is("what was undone may be done again", x.redo(), 0);
        due.is("LOUD", x.of(0, 5), 7);
    }

    // ---- 29: fed

    private static void fedLimits() {
        due.test(29, "HE is FED (v 0 .. 9)");
        for (int v : new int[] {-1, 10, LEAST, MOST}) {
            due.bad("fed(" + v + ")", x -> x.fed(v));
        }
        for (int v = 0; v <= 9; v++) {
            Stylite x = Due.made();
            x.mend(0, 1, 9);
            due.is("fed(" + v + ")", x.fed(v), 9 - v);
            due.is("HUNGER", x.of(0, 1), 9 - v);
            due.is("feedings", x.led(4), 1);
        }
    }

    private static void fedToNothing() {
        due.test(29, "HUNGER less by what is told, 0 at least");
        int[][] hungers = {{0, 0, 0}, {0, 1, 0}, {0, 9, 0}, {3, 2, 1}, {3, 3, 0}, {3, 4, 0}, {8, 9, 0}, {9, 9, 0}, {1, 9, 0}};
        for (int[] one : hungers) {
            Stylite x = Due.made();
            x.mend(0, 1, one[0]);
            due.is("HUNGER " + one[0] + " fed " + one[1], x.fed(one[1]), one[2]);
            due.is("HUNGER then", x.of(0, 1), one[2]);
        }
    }

    private static void fedIsNoChange() {
        due.test(29, "deeds are none");
        Stylite x = Due.made();
        x.mend(0, 1, 8);
        x.mend(0, 1, 9);
        x.undo();
        x.fed(3);
        due.is("changes", x.count(3), 1);
        due.is("what was undone may be done again", x.redo(), 0);
        due.is("HUNGER", x.of(0, 1), 9);
        due.test(29, "nothing but HUNGER and the feedings");
        x = Due.made();
        x.mend(0, 1, 8);
        x.fed(3);
        int[] numbers = {0, 5, 0, 6, 1, 5, 7};
        for (int what = 0; what < numbers.length; what++) {
            due.is("of(0, " + what + ")", x.of(0, what), numbers[what]);
        }
        for (int what = 0; what <= 4; what++) {
            due.is("led(" + what + ")", x.led(what), what == 4 ? 1 : 0);
        }
    }

    // ---- 30: led

    private static void ledLimits() {
        due.test(30, "hours (what 0), LUMPS (1), REMARKS (2), pence (3), feedings (4); BAD");
        for (int what : new int[] {-1, 5, 6, LEAST, MOST}) {
            due.bad("led(" + what + ")", x -> x.led(what));
        }
        int[] led = {2, 0, 2, 11, 1};
        for (int what = 0; what <= 4; what++) {
            int its = what;
            due.unchanged(Laid::furnished, "led(" + what + ")", x -> x.led(its), led[what]);
        }
    }

    private static void ledCounts() {
        due.test(30, "hours");
        Stylite x = Due.ruled("0");
        x.stall(1, 99);
        for (int i = 1; i <= 100; i++) {
            x.hour(i % 2);
        }
        due.is("hours", x.led(0), 100);
        due.test(30, "LUMPS: all but the seven hours in which HUNGER is less than TEMPER");
        due.is("LUMPS", x.led(1), 93);
        due.test(30, "REMARKS that were not 0");
        due.is("REMARKS", x.led(2), 50);
        due.test(30, "pence");
        due.is("pence", x.led(3), 9900);
        due.test(30, "feedings");
        due.is("none", x.led(4), 0);
        x.fed(0);
        due.is("one of 0", x.led(4), 1);
        x.fed(9);
        due.is("two", x.led(4), 2);
        due.test(30, "An object is used for at most 512 calls: by the 512th");
        Stylite last = Due.made();
        for (int i = 0; i < 6; i++) {
            last.stall(65535, 99);
        }
        for (int i = 0; i < 505; i++) {
            last.hour(0);
        }
        due.is("pence", last.led(3), 505 * 594);
        due.test(30, "what was refused is not led");
        x.hour(10);
        x.hour(-1);
        x.fed(10);
        x.fed(-1);
        int[] led = {100, 93, 50, 9900, 2};
        for (int what = 0; what <= 4; what++) {
            due.is("led(" + what + ")", x.led(what), led[what]);
        }
    }

    // ---- 31: image

    private static void imageKept() {
        due.test(31, "AN IMAGE is kept: hours");
        Stylite x = Due.made();
        due.is("at first", x.image(), 0);
        x.hour(1);
        due.is("behind one hour", x.image(), 1);
        x.hour(1);
        x.hour(1);
        due.is("behind three", x.image(), 3);
        due.is("at once again", x.image(), 3);
        due.test(31, "nothing else changes");
        x = Due.made();
        Laid.furnished(x);
        Stylite y = Due.made();
        Laid.furnished(y);
        x.image();
        due.same("image()", Probe.seen(y), Probe.seen(x));
    }

    private static void imageOfTheLatest() {
        due.test(31, "the latest image alone");
        Stylite x = Due.made();
        x.hour(1);
        x.image();
        x.hour(2);
        int mood = x.of(0, 0);
        x.image();
        x.hour(3);
        due.is("back", x.back(), 2);
        due.is("MOOD", x.of(0, 0), mood);
    }

    // ---- 32: back

    private static void backWithout() {
        due.test(32, "STATE: there is none");
        due.unchanged(x -> x.hour(3), "back", x -> x.back(), STATE);
        due.unchanged(x -> {
            x.mend(0, 0, 5);
            x.mend(0, 0, 6);
            x.undo();
        }, "back", x -> x.back(), STATE);
    }

    private static void backLaysBack() {
        Stylite x = Due.ruled("r+6*(r=9)");
        x.stall(65535, 2);
        x.mend(0, 0, 11);
        x.mend(0, 1, 4);
        x.mend(0, 2, 13);
        x.mend(0, 3, 17);
        x.hour(9);
        x.hour(0);
        x.hour(3);
        x.fed(1);
        x.image();
        int[] kept = new int[9];
        for (int i = 0; i < 9; i++) {
            kept[i] = i < 4 ? x.of(0, i) : x.led(i - 4);
        }
        for (int i = 0; i < 9; i++) {
            x.hour(9);
        }
        x.fed(9);
        x.fed(0);
        x.mend(0, 0, 1);
        x.mend(0, 1, 2);
        x.mend(0, 2, 8);
        x.mend(0, 3, 4);
        due.test(32, "It is laid back: hours");
        due.is("back", x.back(), 3);
        String[] names = {"MOOD", "HUNGER", "LAST", "HOUR", "hours", "LUMPS", "REMARKS", "pence", "feedings"};
        for (int i = 0; i < 9; i++) {
            due.test(32, "It is laid back: " + names[i]);
            due.is(names[i], i < 4 ? x.of(0, i) : x.led(i - 4), kept[i]);
        }
        due.test(32, "what was kept");
        // MOOD: 11, with 15 and 9 it is 3, with 3 and 3 it is 9
        int[] all = {9, 6, 3, 20, 3, 1, 2, 6, 1};
        for (int i = 0; i < 9; i++) {
            due.is(names[i], kept[i], all[i]);
        }
    }

    private static void backLeavesTheRest() {
        Stylite x = Due.ruled("r");
        x.image();
        x.stall(65535, 2);
        x.school(7);
        for (int what = 4; what <= 6; what++) {
            x.mend(0, what, 2);
        }
        x.mend(0, 8, 3);
        x.mend(0, 9, 1);
        x.mend(0, 10, 8);
        x.mend(0, 0, 9);
        x.undo();
        x.hour(3);
        x.hour(4);
        x.body(1);
        x.act(0, 0, 1);
        x.row(0, 0, 2);
        x.feed('m');
        due.is("back", x.back(), 0);
        due.test(32, "(What STALLS have sold stays.)");
        due.is("sold", x.of(0, 11), 2);
        due.test(32, "GROWS, LOUD, TEMPER stay");
        for (int what = 4; what <= 6; what++) {
            due.is("of(0, " + what + ")", x.of(0, what), 2);
        }
        due.test(32, "stalls, schools, bodies, shelves, the tape, the law stay");
        int[] rest = {65535, 3, 1, 8};
        for (int what = 7; what <= 10; what++) {
            due.is("of(0, " + what + ")", x.of(0, what), rest[what - 7]);
        }
        due.is("bodies", x.count(4), 1);
        due.is("ran", x.count(5), 2);
        due.is("a row", x.element(0, 1), 0);
        due.is("the tape", x.count(2), 1);
        due.is("the law", x.thing(5), 5);
        due.test(32, "it is no change, and what was undone may be done again");
        due.is("changes", x.count(3), 6);
        due.is("again", x.redo(), 0);
        due.is("MOOD", x.of(0, 0), 9);
    }

    private static void backAgain() {
        due.test(32, "the image is there behind it, too");
        Stylite x = Due.made();
        x.hour(2);
        x.image();
        int mood = x.of(0, 0);
        for (int i = 0; i < 3; i++) {
            x.hour(5);
            due.is("back", x.back(), 1);
            due.is("MOOD", x.of(0, 0), mood);
        }
    }

    // ---- 33: undo

    private static void undoNone() {
        due.test(33, "STATE: none");
        due.unchanged(x -> x.hour(3), "undo", x -> x.undo(), STATE);
        due.unchanged(x -> {
            x.mend(0, 0, 5);
            x.undo();
        }, "undo of what is undone", x -> x.undo(), STATE);
        due.unchanged(x -> x.mend(0, 3, 6), "undo of the same number told", x -> x.undo(), STATE);
        due.unchanged(x -> x.mend(0, 3, 24), "undo of a refused mend", x -> x.undo(), STATE);
        due.unchanged(x -> {
            x.stall(1, 1);
            x.school(1);
            x.hour(1);
            x.fed(1);
            x.image();
            x.back();
        }, "undo of what is none", x -> x.undo(), STATE);
    }

    /** Each number of mend() is told once, then MOOD again. */
    private static Stylite toldAll() {
        Stylite x = Due.made();
        x.stall(3, 4);
        x.school(9);
        for (int what = 0; what <= 10; what++) {
            x.mend(0, what, what == 4 ? 3 : 2);
        }
        x.mend(0, 0, 12);
        return x;
    }

    private static final int[] BEFORE = {0, 0, 0, 6, 1, 5, 7, 3, 4, 0, 9};

    private static void undoLatestFirst() {
        due.test(33, "UNDONE, the latest first: how many may still be");
        Stylite x = toldAll();
        due.is("changes", x.count(3), 12);
        due.is("of the latest", x.undo(), 11);
        due.is("MOOD", x.of(0, 0), 2);
        for (int undone = 10; undone >= 0; undone--) {
            due.is("undo of " + undone, x.undo(), undone);
            due.is("changes", x.count(3), undone);
            for (int what = 0; what <= 10; what++) {
                due.is("of(0, " + what + ")", x.of(0, what), what >= undone ? BEFORE[what] : what == 4 ? 3 : 2);
            }
        }
        due.is("none", x.undo(), STATE);
    }

    private static void undoOfSeveral() {
        due.test(33, "all numbers of mend(): of each STALL and SCHOOL its own");
        Stylite x = Due.made();
        Laid.fullOfStalls(x);
        Laid.fullOfSchools(x);
        for (int what = 7; what <= 10; what++) {
            for (int number = what == 10 ? 4 : 5; number >= 0; number--) {
                x.mend(number, what, 9);
            }
        }
        for (int what = 10; what >= 7; what--) {
            for (int number = 0; number <= (what == 10 ? 4 : 5); number++) {
                due.is("of(" + number + ", " + what + ")", x.of(number, what), 9);
                x.undo();
                due.is("of(" + number + ", " + what + ") then", x.of(number, what), what == 9 ? 0 : number);
            }
        }
        due.test(34, "all numbers of mend(): of each STALL and SCHOOL its own");
        for (int what = 7; what <= 10; what++) {
            for (int number = what == 10 ? 4 : 5; number >= 0; number--) {
                due.is("of(" + number + ", " + what + ")", x.of(number, what), what == 9 ? 0 : number);
                x.redo();
                due.is("of(" + number + ", " + what + ") again", x.of(number, what), 9);
            }
        }
        due.test(33, "40 at most are kept: the numbers of those kept");
        x = Due.made();
        Laid.fullOfStalls(x);
        for (int i = 0; i < 60; i++) {
            x.mend(i % 6, 7 + i % 2, 10 + i);
        }
        for (int i = 59; i >= 20; i--) {
            due.is("the latest", x.of(i % 6, 7 + i % 2), 10 + i);
            x.undo();
            due.is("the one ahead of it", x.of(i % 6, 7 + i % 2), 4 + i);
        }
        due.is("no more", x.undo(), STATE);
    }

    /** MOOD is told so many times, each time another: 1 on to 15, then 1 again. */
    private static Stylite changed(int times) {
        Stylite x = Due.made();
        for (int i = 0; i < times; i++) {
            x.mend(0, 0, i % 15 + 1);
        }
        return x;
    }

    private static void undoForty() {
        for (int times : new int[] {1, 39, 40, 41, 42, 80, 81}) {
            due.test(33, "40 at most are kept: of " + times);
            Stylite x = changed(times);
            int kept = Math.min(times, KEPT);
            due.is("changes", x.count(3), kept);
            for (int i = 1; i <= kept; i++) {
                due.is("undo " + i, x.undo(), kept - i);
            }
            due.is("one more", x.undo(), STATE);
            due.is("MOOD as it was ahead of those kept", x.of(0, 0), times <= KEPT ? 0 : (times - KEPT - 1) % 15 + 1);
        }
    }

    private static void undoBehindDeeds() {
        due.test(33, "deeds are none: a number becomes what it was ahead of its mend()");
        Stylite x = Due.ruled("r");
        x.mend(0, 0, 5);
        x.mend(0, 1, 7);
        x.hour(4);
        due.is("MOOD by the deed", x.of(0, 0), 13);
        due.is("HUNGER by the deed", x.of(0, 1), 8);
        due.is("undo", x.undo(), 1);
        due.is("HUNGER", x.of(0, 1), 0);
        due.is("MOOD stays", x.of(0, 0), 13);
        due.is("undo", x.undo(), 0);
        due.is("MOOD", x.of(0, 0), 0);
        due.is("LAST stays", x.of(0, 2), 4);
        due.is("HOUR stays", x.of(0, 3), 7);
        due.is("hours stay", x.led(0), 1);
    }

    // ---- 34: redo

    private static void redoNone() {
        due.test(34, "STATE: none");
        due.unchanged(x -> x.hour(3), "redo", x -> x.redo(), STATE);
        due.unchanged(x -> x.mend(0, 0, 5), "redo of what is not undone", x -> x.redo(), STATE);
        due.unchanged(x -> {
            x.mend(0, 0, 5);
            x.undo();
            x.redo();
        }, "redo of what is done again", x -> x.redo(), STATE);
    }

    private static void redoLatestFirst() {
        due.test(34, "DONE AGAIN: how many may still be");
        Stylite x = toldAll();
        for (int i = 0; i < 12; i++) {
            x.undo();
        }
        for (int again = 0; again <= 10; again++) {
            due.is("redo of " + again, x.redo(), 11 - again);
            due.is("changes", x.count(3), again + 1);
            for (int what = 0; what <= 10; what++) {
                due.is("of(0, " + what + ")", x.of(0, what), what > again ? BEFORE[what] : what == 4 ? 3 : 2);
            }
        }
        due.is("the last", x.redo(), 0);
        due.is("MOOD", x.of(0, 0), 12);
        due.is("none", x.redo(), STATE);
        due.is("undo of it", x.undo(), 11);
        due.is("MOOD", x.of(0, 0), 2);
        due.is("redo of it", x.redo(), 0);
        due.is("MOOD", x.of(0, 0), 12);
    }

    private static void redoUnlessAnotherCame() {
        due.test(34, "(as long as no other came behind)");
        due.unchanged(x -> {
            x.mend(0, 0, 5);
            x.mend(0, 0, 6);
            x.undo();
            x.mend(0, 1, 1);
        }, "redo behind another", x -> x.redo(), STATE);
        Stylite x = Due.made();
        x.mend(0, 0, 5);
        x.mend(0, 0, 6);
        x.mend(0, 0, 7);
        x.undo();
        x.undo();
        x.mend(0, 1, 1);
        due.is("changes", x.count(3), 2);
        due.is("undo of the other", x.undo(), 1);
        due.is("MOOD", x.of(0, 0), 5);
        due.is("redo of the other", x.redo(), 0);
        due.is("HUNGER", x.of(0, 1), 1);
        due.test(34, "telling the same number is none; one that is refused, too");
        x = Due.made();
        x.mend(0, 0, 5);
        x.mend(0, 0, 6);
        x.undo();
        x.mend(0, 0, 5);
        x.mend(0, 0, 16);
        x.mend(0, 3, 6);
        due.is("redo", x.redo(), 0);
        due.is("MOOD", x.of(0, 0), 6);
    }

    private static void redoForty() {
        due.test(34, "40 at most are kept");
        Stylite x = changed(45);
        for (int i = 0; i < KEPT; i++) {
            x.undo();
        }
        due.is("MOOD behind the first five", x.of(0, 0), 5);
        for (int i = KEPT - 1; i >= 0; i--) {
            due.is("redo", x.redo(), i);
        }
        due.is("one more", x.redo(), STATE);
        due.is("MOOD behind all", x.of(0, 0), 15);
        due.is("changes", x.count(3), KEPT);
        due.test(34, "another behind forty that were undone");
        x = changed(45);
        for (int i = 0; i < KEPT; i++) {
            x.undo();
        }
        x.mend(0, 1, 3);
        due.is("changes", x.count(3), 1);
        due.is("redo", x.redo(), STATE);
        due.is("undo", x.undo(), 0);
        due.is("HUNGER", x.of(0, 1), 0);
        due.is("MOOD stays", x.of(0, 0), 5);
        due.is("no more", x.undo(), STATE);
    }
}
