/** The edges of promises 1 to 9: him, stalls, schools, the law. Each sentence that names an edge has a test of its own. */
public final class HimEdgesTest {
    private static final int BAD = -1, FULL = -3, STATE = -5;
    private static final int LEAST = Integer.MIN_VALUE, MOST = Integer.MAX_VALUE;
    private static final String DIGITS = "0123456789", NAMES = "mglhrt", OPENING = "(!-", JOINING = "|&<=>+-*/%";

    /** By what of mend(): the number at first, and the greatest; of a stall and of a school those of one(). */
    private static final int[] AT_FIRST = {0, 0, 0, 6, 1, 5, 7, 3, 4, 0, 5};
    private static final int[] GREATEST = {15, 9, 15, 23, 3, 9, 9, 65535, 99, 9, 65535};
    private static final String[] NAMED = {"MOOD (0 .. 15)", "HUNGER (0 .. 9)", "the LAST THING he said (0 .. 15)",
        "HOUR (0 .. 23)", "GROWS (0 .. 3)", "LOUD (0 .. 9)", "TEMPER (0 .. 9)", "LIKES (bits 0 .. 65535)",
        "PRICE (0 .. 99)", "CELL (0 .. 9)", "READS (bits 0 .. 65535)"};

    private static final Due due = new Due("HimEdgesTest");

    public static void main(String[] args) {
        constants();
        atFirst();
        atFirstNothing();
        ofItsOwn();
        stallLimits();
        stallsFull();
        stallsPlaces();
        stallsNotAsTheyMayBe();
        stallsRefusals();
        stallsOfRowsThatLackOrEnd();
        stallsUntilFull();
        schoolLimits();
        schoolsFull();
        mendLimits();
        mendNumbers();
        mendAlone();
        ofLimits();
        ofSold();
        feedLimits();
        feedFull();
        lawFaultAtTheFirst();
        lawFaultBehindOperands();
        lawFaultBehindSigns();
        lawFaultOfLines();
        lawFaultAtTheLength();
        lawSixOpen();
        lawSixOpenAnywhere();
        lawOfFullTape();
        lawBehindFault();
        lawAgain();
        lawEmptiesTape();
        lawNames();
        lawNumbersAndSigns();
        lawDivides();
        lawWraps();
        lawOrderOfSigns();
        lawLines();
        thingLimits();
        thingOfFifteenBits();
        thingWithoutText();
        due.end();
    }

    // ---- 1: a new object

    private static void constants() {
        due.test(1, "BAD = -1, NOT = -2, FULL = -3, STATE = -5, VOID = -2000000000");
        due.is("BAD", StyliteOverheard.BAD, -1);
        due.is("NOT", StyliteOverheard.NOT, -2);
        due.is("FULL", StyliteOverheard.FULL, -3);
        due.is("STATE", StyliteOverheard.STATE, -5);
        due.is("VOID", StyliteOverheard.VOID, -2000000000);
    }

    private static void atFirst() {
        Stylite x = Due.made();
        for (int what = 0; what <= 6; what++) {
            due.test(1, NAMED[what] + " .. at first");
            due.is("of(0, " + what + ")", x.of(0, what), AT_FIRST[what]);
        }
    }

    private static void atFirstNothing() {
        due.test(1, "A pillar, no stalls, no schools");
        String[] counted = {"stalls", "schools", "bytes on the tape", "changes", "bodies", "bodies that ran"};
        for (int what = 0; what < counted.length; what++) {
            due.is(counted[what], Due.made().count(what), 0);
        }
        for (int what = 7; what <= 11; what++) {
            due.is("of(0, " + what + ")", Due.made().of(0, what), BAD);
        }
        due.is("the law of no tape", Due.made().law(), -100);
        due.is("undo", Due.made().undo(), STATE);
        due.is("redo", Due.made().redo(), STATE);
        due.is("back", Due.made().back(), STATE);
        due.is("trace", Due.made().trace(0), BAD);
        due.is("act", Due.made().act(0, 0, 1), 0);
        for (int what = 0; what <= 4; what++) {
            due.is("led(" + what + ")", Due.made().led(what), 0);
        }
        due.test(1, "SHELVES 0 .. 5 each hold nothing (at first)");
        for (int shelf = 0; shelf <= 5; shelf++) {
            due.is("taken from " + shelf, Due.made().taken(shelf, 0), -11);
            due.is("put on " + shelf, Due.made().put(shelf, 0, 0), -11);
        }
    }

    private static void ofItsOwn() {
        due.test(1, "All memory is the class's own");
        String before = Probe.answers(Due.made());
        Stylite other = Due.made();
        Stylite x = Due.made();
        Laid.furnished(other);
        due.same("another object", before, Probe.answers(x));
    }

    // ---- 2: stall

    private static void stallLimits() {
        due.test(2, "LIKES (bits 0 .. 65535)");
        for (int likes : new int[] {-1, 65536, LEAST, MOST}) {
            due.bad("stall(" + likes + ", 0)", x -> x.stall(likes, 0));
        }
        for (int likes : new int[] {0, 1, 65534, 65535}) {
            Stylite x = Due.made();
            due.is("stall(" + likes + ", 0)", x.stall(likes, 0), 0);
            due.is("its LIKES", x.of(0, 7), likes);
        }
        due.test(2, "PRICE (0 .. 99)");
        for (int price : new int[] {-1, 100, LEAST, MOST}) {
            due.bad("stall(0, " + price + ")", x -> x.stall(0, price));
        }
        for (int price : new int[] {0, 1, 98, 99}) {
            Stylite x = Due.made();
            due.is("stall(0, " + price + ")", x.stall(0, price), 0);
            due.is("its PRICE", x.of(0, 8), price);
        }
        due.test(2, "CELL (0 .. 9: how far off; 0 at first)");
        Stylite x = Due.made();
        x.stall(65535, 99);
        due.is("its CELL", x.of(0, 9), 0);
        due.is("what it has sold", x.of(0, 11), 0);
        due.test(2, "a STALL that came is no change");
        due.is("count(3)", x.count(3), 0);
    }

    private static void stallsFull() {
        due.test(2, "STALLS 0 .. 5, as they come");
        Stylite x = Due.made();
        for (int i = 0; i < 6; i++) {
            due.is("a stall's number", x.stall(i + 1, i + 2), i);
            due.is("how many", x.count(0), i + 1);
        }
        for (int i = 0; i < 6; i++) {
            due.is("LIKES of " + i, x.of(i, 7), i + 1);
            due.is("PRICE of " + i, x.of(i, 8), i + 2);
        }
        due.test(2, "FULL: 6");
        due.unchanged(Laid::fullOfStalls, "a seventh", y -> y.stall(1, 1), FULL);
        due.test(2, "BAD, FULL: of several the one named first");
        due.unchanged(Laid::fullOfStalls, "a seventh with LIKES -1", y -> y.stall(-1, 1), BAD);
        due.unchanged(Laid::fullOfStalls, "a seventh with PRICE 100", y -> y.stall(1, 100), BAD);
    }

    // ---- 3: stalls

    /** With a row of three stalls on shelf 0: LIKES 11, 21, 31, PRICES 12, .., CELLS 1, 2, 3. */
    private static Stylite rowOfThree() {
        Stylite x = Due.made();
        Due.lay(x, 0, 2, 11, 12, 1, 21, 22, 2, 31, 32, 3);
        return x;
    }

    private static void came(String call, Stylite x, int answer, int... likes) {
        due.is(call, answer, likes.length);
        due.is(call + ": stalls", x.count(0), likes.length);
        for (int s = 0; s < likes.length; s++) {
            due.is(call + ": LIKES of " + s, x.of(s, 7), likes[s]);
            due.is(call + ": PRICE of " + s, x.of(s, 8), likes[s] + 1);
            due.is(call + ": CELL of " + s, x.of(s, 9), likes[s] / 10);
        }
    }

    private static void stallsPlaces() {
        due.test(3, "n (1 .. 6) of them");
        due.bad("n 0", x -> x.stalls(Laid.INTS, 0, 0));
        due.bad("n 7", x -> x.stalls(Laid.INTS, 0, 7));
        due.bad("n least", x -> x.stalls(Laid.INTS, 0, LEAST));
        due.bad("n greatest", x -> x.stalls(Laid.INTS, 0, MOST));
        Stylite x = rowOfThree();
        came("n 1", x, x.stalls(0, 0, 1), 11);
        x = rowOfThree();
        came("n 2", x, x.stalls(0, 0, 2), 11, 21);
        x = rowOfThree();
        came("n 3", x, x.stalls(0, 0, 3), 11, 21, 31);
        due.test(3, "0 with i below 0");
        due.unchanged(Laid::furnished, "i -1", y -> y.stalls(Laid.INTS, -1, 1), 0);
        due.unchanged(Laid::furnished, "i -3", y -> y.stalls(Laid.INTS, -3, 2), 0);
        due.unchanged(Laid::furnished, "i least", y -> y.stalls(Laid.INTS, LEAST, 6), 0);
        due.test(3, "from place i on");
        x = rowOfThree();
        came("i 3", x, x.stalls(0, 3, 2), 21, 31);
        x = rowOfThree();
        came("i 6", x, x.stalls(0, 6, 1), 31);
        due.test(3, "a stall from a row is no change");
        due.is("count(3)", x.count(3), 0);
        due.is("sold", x.of(0, 11), 0);
    }

    private static void stallsOfRowsThatLackOrEnd() {
        due.test(3, "it ends where the row ends");
        Stylite x = rowOfThree();
        came("n 6 of nine elements", x, x.stalls(0, 0, 6), 11, 21, 31);
        for (int i : new int[] {9, 10, 60, MOST - 2, MOST}) {
            came("i " + i, rowOfThree(), rowOfThree().stalls(0, i, 1));
        }
        x = Due.made();
        x.row(0, 2, 0);
        came("a row of no elements", x, x.stalls(0, 0, 1));
        x = Due.made();
        x.row(0, 2, 60);
        x.put(0, 57, 11);
        x.put(0, 58, 12);
        x.put(0, 59, 1);
        came("the last three of sixty", x, x.stalls(0, 57, 6), 11);
        due.test(3, "(within a three, too)");
        for (int i = 7; i <= 8; i++) {
            x = rowOfThree();
            came("i " + i, x, x.stalls(0, i, 1));
        }
        for (int size = 4; size <= 5; size++) {
            x = Due.made();
            Due.lay(x, 0, 2, 11, 12, 1, 21);
            if (size == 5) {
                Due.lay(x, 0, 2, 11, 12, 1, 21, 22);
            }
            came("of " + size + " elements", x, x.stalls(0, 0, 2), 11);
        }
        due.test(3, "a SHELF that holds nothing is missing: it ends where the row is missing");
        due.unchanged(Laid::furnished, "nothing", y -> y.stalls(Laid.NOTHING, 0, 1), 0);
        due.unchanged(Laid::furnished, "nothing, i below 0", y -> y.stalls(Laid.NOTHING, -1, 1), 0);
    }

    private static void stallsNotAsTheyMayBe() {
        long[][] wrong = {{-1, 22, 2}, {65536, 22, 2}, {21, -1, 2}, {21, 100, 2}, {21, 22, -1}, {21, 22, 10},
            {LEAST, 22, 2}, {21, MOST, 2}, {21, 22, LEAST}};
        for (long[] three : wrong) {
            due.test(3, "one is not as it may be: " + three[0] + ", " + three[1] + ", " + three[2]);
            Stylite x = Due.made();
            Due.lay(x, 0, 2, 11, 12, 1, three[0], three[1], three[2], 31, 32, 3);
            came("the second of three", x, x.stalls(0, 0, 3), 11);
            due.is("from it on", x.stalls(0, 3, 2), 0);
        }
        due.test(3, "the least and the greatest of LIKES, PRICE, CELL");
        Stylite x = Due.made();
        Due.lay(x, 0, 2, 65535, 99, 9, 0, 0, 0);
        due.is("both", x.stalls(0, 0, 2), 2);
        int[] numbers = {65535, 99, 9};
        for (int what = 7; what <= 9; what++) {
            due.is("of(0, " + what + ")", x.of(0, what), numbers[what - 7]);
            due.is("of(1, " + what + ")", x.of(1, what), 0);
        }
    }

    private static void stallsUntilFull() {
        due.test(3, "or STALLS are FULL: those ahead came");
        for (int there = 0; there <= 6; there++) {
            Stylite x = Due.made();
            for (int i = 0; i < there; i++) {
                x.stall(i, 0);
            }
            x.row(0, 2, 18);
            for (int i = 0; i < 6; i++) {
                x.put(0, 3 * i, 100 + i);
            }
            due.is("six with " + there + " there", x.stalls(0, 0, 6), 6 - there);
            due.is("stalls", x.count(0), 6);
            due.is("LIKES of the last", x.of(5, 7), there == 6 ? 5 : 105 - there);
        }
    }

    private static void stallsRefusals() {
        due.test(3, "SHELVES 0 .. 5");
        for (int shelf : new int[] {-1, 6, LEAST, MOST}) {
            due.bad("shelf " + shelf, x -> x.stalls(shelf, 0, 1));
        }
        for (int shelf = 0; shelf <= 5; shelf++) {
            Stylite x = Due.made();
            x.row(shelf, 2, 3);
            due.is("shelf " + shelf, x.stalls(shelf, 0, 1), 1);
        }
        due.test(3, "-12 (no ROW of ints)");
        due.unchanged(Laid::furnished, "a body", x -> x.stalls(Laid.BODY, 0, 1), -12);
        due.unchanged(Laid::furnished, "bytes", x -> x.stalls(Laid.BYTES, 0, 1), -12);
        due.unchanged(Laid::furnished, "booleans", x -> x.stalls(Laid.BOOLEANS, 0, 1), -12);
        for (int sort : new int[] {1, 3}) {
            due.unchanged(x -> x.row(0, sort, 3), "sort " + sort, x -> x.stalls(0, 0, 1), -12);
        }
        due.test(3, "BAD, -12: of several the one named first");
        due.badOnAnyShelf("n 7", (x, shelf) -> x.stalls(shelf, 0, 7));
        due.badOnAnyShelf("n 0", (x, shelf) -> x.stalls(shelf, -1, 0));
    }

    // ---- 4: school

    private static void schoolLimits() {
        due.test(4, "READS (bits 0 .. 65535)");
        for (int reads : new int[] {-1, 65536, LEAST, MOST}) {
            due.bad("school(" + reads + ")", x -> x.school(reads));
        }
        for (int reads : new int[] {0, 1, 65534, 65535}) {
            Stylite x = Due.made();
            due.is("school(" + reads + ")", x.school(reads), 0);
            due.is("its READS", x.of(0, 10), reads);
        }
    }

    private static void schoolsFull() {
        due.test(4, "SCHOOLS 0 .. 4, as they come");
        Stylite x = Due.made();
        for (int i = 0; i < 5; i++) {
            due.is("a school's number", x.school(i + 1), i);
            due.is("how many", x.count(1), i + 1);
        }
        for (int i = 0; i < 5; i++) {
            due.is("READS of " + i, x.of(i, 10), i + 1);
        }
        due.is("changes", x.count(3), 0);
        due.test(4, "FULL: 5");
        due.unchanged(Laid::fullOfSchools, "a sixth", y -> y.school(1), FULL);
        due.test(4, "BAD, FULL: of several the one named first");
        due.unchanged(Laid::fullOfSchools, "a sixth of -1", y -> y.school(-1), BAD);
        due.unchanged(Laid::fullOfSchools, "a sixth of 65536", y -> y.school(65536), BAD);
    }

    // ---- 5: mend

    /** With one stall and one school. */
    private static Stylite one() {
        Stylite x = Due.made();
        x.stall(3, 4);
        x.school(5);
        return x;
    }

    private static void mendLimits() {
        for (int what = 0; what <= 10; what++) {
            int its = what;
            due.test(5, NAMED[what]);
            for (int v : new int[] {-1, GREATEST[what] + 1, LEAST, MOST}) {
                due.bad("mend(0, " + what + ", " + v + ")", x -> x.mend(0, its, v));
            }
            Stylite x = one();
            due.is("to the greatest, it was", x.mend(0, what, GREATEST[what]), AT_FIRST[what]);
            due.is("the greatest", x.of(0, what), GREATEST[what]);
            due.is("to the least, it was", x.mend(0, what, 0), GREATEST[what]);
            due.is("the least", x.of(0, what), 0);
            due.is("changes", x.count(3), 2);
            due.is("to the least again, it was", x.mend(0, what, 0), 0);
            due.test(5, "telling the same number is none (no change)");
            due.is("changes with the same number", x.count(3), 2);
        }
    }

    private static void mendNumbers() {
        for (int what = 0; what <= 6; what++) {
            due.test(5, "number 0 for these, another: BAD; what " + what);
            int its = what;
            for (int number : new int[] {-1, 1, LEAST, MOST}) {
                due.bad("mend(" + number + ", " + what + ", 1)", x -> x.mend(number, its, 1));
            }
        }
        for (int what = 7; what <= 10; what++) {
            due.test(5, (what < 10 ? "of a STALL" : "of a SCHOOL") + ": no such number: BAD; what " + what);
            int its = what;
            // a furnished one has two of each
            for (int number : new int[] {-1, 2, LEAST, MOST}) {
                due.bad("mend(" + number + ", " + what + ", 1)", x -> x.mend(number, its, 1));
            }
            int full = what < 10 ? 6 : 5;
            due.unchanged(x -> {
                Laid.fullOfStalls(x);
                Laid.fullOfSchools(x);
            }, "mend(" + full + ", " + what + ", 9)", x -> x.mend(full, its, 9), BAD);
            Stylite x = Due.made();
            Laid.fullOfStalls(x);
            Laid.fullOfSchools(x);
            due.is("of the last", x.mend(full - 1, what, 9), what == 9 ? 0 : full - 1);
            due.is("of the last then", x.of(full - 1, what), 9);
        }
        due.test(5, "no such what: BAD");
        for (int what : new int[] {-1, 11, 12, LEAST, MOST}) {
            due.bad("mend(0, " + what + ", 0)", x -> x.mend(0, what, 0));
        }
        due.test(5, "a school is no stall, a stall no school");
        due.unchanged(x -> x.school(1), "LIKES of a school", x -> x.mend(0, 7, 2), BAD);
        due.unchanged(x -> x.stall(1, 1), "READS of a stall", x -> x.mend(0, 10, 2), BAD);
    }

    private static void mendAlone() {
        for (int what = 0; what <= 10; what++) {
            due.test(5, "becomes v: " + NAMED[what] + " and nothing else");
            Stylite x = one();
            x.stall(7, 8);
            x.school(9);
            x.mend(0, what, 2);
            int[] ofTheOther = {7, 8, 0, 9};
            for (int other = 0; other <= 10; other++) {
                due.is("of(0, " + other + ")", x.of(0, other), other == what ? 2 : AT_FIRST[other]);
                if (other >= 7) {
                    due.is("of(1, " + other + ")", x.of(1, other), ofTheOther[other - 7]);
                }
            }
        }
    }

    // ---- 6: of

    private static void ofLimits() {
        due.test(6, "As of mend() (0 to 10), 11; another: BAD");
        for (int what : new int[] {-1, 12, 13, LEAST, MOST}) {
            due.bad("of(0, " + what + ")", x -> x.of(0, what));
        }
        due.test(6, "number 0 for these, another: BAD");
        for (int what = 0; what <= 6; what++) {
            int its = what;
            for (int number : new int[] {-1, 1, 2, LEAST, MOST}) {
                due.bad("of(" + number + ", " + what + ")", x -> x.of(number, its));
            }
        }
        for (int what = 7; what <= 11; what++) {
            due.test(6, "no such number: BAD; what " + what);
            int its = what;
            for (int number : new int[] {-1, 2, LEAST, MOST}) {
                due.bad("of(" + number + ", " + what + ")", x -> x.of(number, its));
            }
            int full = what == 10 ? 5 : 6;
            Stylite x = Due.made();
            Laid.fullOfStalls(x);
            Laid.fullOfSchools(x);
            due.is("of the last", x.of(full - 1, what), what == 9 || what == 11 ? 0 : full - 1);
            due.is("of one more", x.of(full, what), BAD);
        }
        due.test(6, "it changes nothing");
        due.unchanged(Laid::furnished, "of(0, 3)", x -> x.of(0, 3), 8);
    }

    private static void ofSold() {
        due.test(6, "of a STALL 11 how many it has sold in deed");
        Stylite x = Due.ruled("r");
        x.stall(2, 4);
        x.stall(6, 4);
        x.hour(1);
        due.is("0 behind one hour", x.of(0, 11), 1);
        due.is("1 behind one hour", x.of(1, 11), 1);
        x.hour(2);
        due.is("0 behind two hours", x.of(0, 11), 1);
        due.is("1 behind two hours", x.of(1, 11), 2);
        Due.bytes(x, 0, 1, 1, 1);
        x.sold(0, 3, 0);
        x.hours(0, 3, 0);
        x.best(9, -1);
        due.is("thought sells nothing", x.of(0, 11), 1);
    }

    // ---- 7: feed

    private static void feedLimits() {
        due.test(7, "A byte (0 .. 255)");
        for (int letter : new int[] {-1, 256, LEAST, MOST}) {
            due.bad("feed(" + letter + ")", x -> x.feed(letter));
        }
        Stylite x = Due.made();
        due.is("feed(0)", x.feed(0), 1);
        due.is("feed(255)", x.feed(255), 2);
        due.is("the tape", x.count(2), 2);
    }

    private static void feedFull() {
        due.test(7, "THE TAPE (at most 120 bytes)");
        Stylite x = Due.made();
        for (int i = 1; i <= 120; i++) {
            due.is("byte " + i, x.feed('m'), i);
        }
        due.is("how many", x.count(2), 120);
        due.test(7, "FULL (120)");
        due.unchanged(Laid::fullTape, "byte 121", y -> y.feed('m'), FULL);
        due.test(7, "BAD, FULL: of several the one named first");
        due.unchanged(Laid::fullTape, "byte 121, -1", y -> y.feed(-1), BAD);
        due.unchanged(Laid::fullTape, "byte 121, 256", y -> y.feed(256), BAD);
    }

    // ---- 8: law

    /** Of all bytes behind a beginning: those that end a text, those with which it ends too early, and the faults. */
    private static void goesOn(String begun, String ends, String early) {
        due.test(8, "FAULT: the first byte with which no TEXT goes on; behind \"" + begun + "\"");
        int here = begun.length();
        for (int b = 0; b <= 255; b++) {
            String text = begun + (char) b;
            boolean goesOn = ends.indexOf(b) >= 0 || early.indexOf(b) >= 0;
            int place = goesOn ? here + 1 : here;
            due.is("byte " + b, Due.law(Due.made(), text), ends.indexOf(b) >= 0 ? 1 : -100 - place);
            due.is("byte " + b + " with a blank behind it", Due.law(Due.made(), text + ' '), -100 - place);
        }
    }

    private static void lawFaultAtTheFirst() {
        goesOn("", DIGITS + NAMES, OPENING);
        goesOn("(", "", DIGITS + NAMES + OPENING);
        goesOn("!", DIGITS + NAMES, OPENING);
        goesOn("-", DIGITS + NAMES, OPENING);
    }

    private static void lawFaultBehindOperands() {
        goesOn("m", "", JOINING + "?;");
        goesOn("1", DIGITS, JOINING + "?;");
        goesOn("999", DIGITS, JOINING + "?;");
        goesOn("9999", "", JOINING + "?;");
        goesOn("0000", "", JOINING + "?;");
        goesOn("(m", ")", JOINING);
        goesOn("(9999", ")", JOINING);
        goesOn("(m)", "", JOINING + "?;");
        goesOn("((m)", ")", JOINING);
        goesOn("!m", "", JOINING + "?;");
        goesOn("-m", "", JOINING + "?;");
    }

    private static void lawFaultBehindSigns() {
        for (int i = 0; i < JOINING.length(); i++) {
            goesOn("m" + JOINING.charAt(i), DIGITS + NAMES, OPENING);
        }
        String notCompared = "|&+-*/%";
        for (String sign : new String[] {"<", "=", ">"}) {
            goesOn("m" + sign + "g", "", notCompared + "?;");
            goesOn("(m" + sign + "g", ")", notCompared);
            goesOn("(m" + sign + "g)", "", JOINING + "?;");
            goesOn("m" + sign + "(g", ")", JOINING);
        }
        goesOn("m<g+l", "", notCompared + "?;");
        goesOn("m<g|l", "", JOINING + "?;");
        goesOn("m<g&l", "", JOINING + "?;");
    }

    private static void lawFaultOfLines() {
        goesOn("m?", DIGITS + NAMES, OPENING);
        goesOn("m?g", "", JOINING + ";");
        goesOn("m<g?l", "", JOINING + ";");
        goesOn("m?(g)", "", JOINING + ";");
        goesOn("m;", DIGITS + NAMES, OPENING);
        goesOn("m;g", "", JOINING + "?;");
        goesOn("m?g;", DIGITS + NAMES, OPENING);
        goesOn("m?g;l", "", JOINING + "?;");
        goesOn("m?g;l?h", "", JOINING + ";");
    }

    private static void fault(String text, int place) {
        due.is("law of \"" + text + "\"", Due.law(Due.made(), text), -100 - place);
    }

    private static void fine(String text) {
        due.is("law of \"" + text + "\"", Due.law(Due.made(), text), 1);
    }

    private static void lawFaultAtTheLength() {
        due.test(8, "the length, if it ends too early");
        fault("", 0);
        for (String text : new String[] {"(", "!", "-", "m+", "m?", "m;", "(m", "((m)", "m<", "m?g;", "!(", "(m+g", "9999*",
            "m;g?", "-(m)-", "(((((("}) {
            fault(text, text.length());
        }
    }

    private static void lawSixOpen() {
        due.test(8, "At most 6 of ( ! - ahead of an O are open at once: 6");
        for (String six : new String[] {"!!!!!!", "------", "!-!-!-", "-!!--!"}) {
            fine(six + "m");
            fine("m-" + six + "9");
            fine(six + "m+" + six + "g;" + six + "l?" + six + "h");
        }
        fine("((((((m))))))");
        fine("!(-(!(m)))");
        fine("((((((m))))))*((((((g))))))");
        fine("(((((!m+-g)))))");
        due.test(8, "At most 6 .. are open at once: 7");
        for (String seven : new String[] {"!!!!!!!", "-------", "(((((((", "!-(!-(!", "!-(!-(-", "((((((!", "((((((-",
            "!!!!!!("}) {
            fault(seven + "m", 6);
            fault("m-" + seven + "9", 8);
        }
        goesOn("((((((", "", DIGITS + NAMES);
        goesOn("!!!!!!", DIGITS + NAMES, "");
        goesOn("------", DIGITS + NAMES, "");
        goesOn("!-!-!(", "", DIGITS + NAMES);
        due.test(8, "open at once: an O that has ended frees the signs ahead of it");
        fine("(!m+-g+!l+-h+!r+-t+(m)+(g))");
        fine("!(m)-(g)-(l)-(h)-(r)-(t)-(m)-(g)");
        fine("(-(m)+!!!!!g)");
        fault("(-(m)+!!!!!!g)", 11);
        fine("m-m-m-m-m-m-m-m-m");
        fault("m--------m", 8);
    }

    /** Wherever an O may stand, outside of all ( and inside one. */
    private static void lawSixOpenAnywhere() {
        for (String ahead : new String[] {"", "m?", "m;", "m?g;", "m?g;l?", "m|", "m&", "m<", "m=", "m>", "m+", "m-", "m*", "m/",
            "m%", "m?g|", "m?g&", "m?g<", "m?g+", "m?g*"}) {
            due.test(8, "At most 6 .. are open at once: behind \"" + ahead + "\"");
            for (String sign : new String[] {"!", "-"}) {
                String six = Laid.repeated(sign, 6);
                fine(ahead + six + "m");
                fault(ahead + six + sign + "m", ahead.length() + 6);
                fault(ahead + six + "(m)", ahead.length() + 6);
            }
            fine(ahead + "((((((m))))))");
            fault(ahead + "(((((((m)))))))", ahead.length() + 6);
            if (ahead.indexOf('?') < 0 && ahead.indexOf(';') < 0) {
                fine("(" + ahead + "!!!!!m)");
                fault("(" + ahead + "!!!!!!m)", ahead.length() + 6);
                fault("g?(" + ahead + "-----(m))", ahead.length() + 8);
            }
        }
    }

    private static void lawOfFullTape() {
        due.test(8, "a TEXT by THE TAPE (at most 120 bytes)");
        Stylite x = Due.made();
        Laid.fullTape(x);
        due.is("120 bytes", x.law(), 1);
        due.is("its last byte counts", x.thing(0), 59 + 11 & 15);
        due.test(8, "FAULT at the first, in the middle, at the last, at the length of 120 bytes");
        String ones = Laid.repeated("1+", 59);
        fault("+" + ones + "1", 0);
        fault(ones.substring(0, 60) + "+" + ones.substring(0, 58) + "1", 60);
        fault(ones + "1)", 119);
        fault(ones + "1+", 120);
        due.test(8, "LINES, one or more: as many as 120 bytes have");
        fine(Laid.repeated("7;", 59) + "7");
        fault(Laid.repeated("7;", 60), 120);
        x = Due.ruled(Laid.repeated("0?9;", 29) + "13");
        due.is("the thirtieth line counts", x.thing(0), 13);
        x = Due.ruled(Laid.repeated("0;", 59) + "7");
        due.is("the first of sixty counts", x.thing(0), 0);
    }

    private static void lawBehindFault() {
        due.test(8, "-100 less its FAULT: THE LAW is as it was");
        Stylite x = Due.ruled("7");
        for (String text : new String[] {"", "x", "9;", "9+", "9)"}) {
            due.is("law of \"" + text + "\"", Due.law(x, text) < -99 ? 1 : 0, 1);
            due.is("thing behind \"" + text + "\"", x.thing(0), 7);
        }
        due.is("another text", Due.law(x, "9"), 1);
        due.is("thing behind it", x.thing(0), 9);
    }

    private static void lawAgain() {
        due.test(8, "THE TAPE becomes THE LAW: the latest text alone");
        Stylite x = Due.made();
        String[] texts = {"7", "h", "0?5;m+3", "r=1?9;2", "12", "0?1", "5;6;7", "(r)*3", "0", "0", "8", "9"};
        int[] things = {7, 6, 3, 9, 12, 0, 5, 3, 0, 0, 8, 9};
        for (int i = 0; i < texts.length; i++) {
            due.is("law of \"" + texts[i] + "\"", Due.law(x, texts[i]), 1);
            due.is("thing by \"" + texts[i] + "\"", x.thing(1), things[i]);
            due.is("law of a fault behind it", Due.law(x, i < 6 ? "4;3?2+" : "0+"), i < 6 ? -106 : -102);
            due.is("thing by \"" + texts[i] + "\" still", x.thing(1), things[i]);
        }
    }

    private static void lawEmptiesTape() {
        due.test(8, "THE TAPE is empty then");
        Stylite x = Due.made();
        due.is("a text", Due.law(x, "m+g"), 1);
        due.is("the tape", x.count(2), 0);
        due.is("once more", x.law(), -100);
        due.is("its first byte", x.feed('m'), 1);
        due.is("the text of it alone", x.law(), 1);
        due.is("the tape", x.count(2), 0);
        due.is("a fault", Due.law(x, "m+*"), -102);
        due.is("the tape behind a fault", x.count(2), 0);
        due.is("its first byte", x.feed('g'), 1);
        due.is("the text of it alone", x.law(), 1);
        x = Due.made();
        Laid.fullTape(x);
        x.law();
        due.is("a byte behind a full tape", x.feed('m'), 1);
    }

    /** What he says by a text; his numbers are unlike: m 3, g 9, l 5, h 21, t 8, and r is 4. */
    private static void says(String text, int v) {
        due.is("thing by " + text, Laid.told(text).thing(4), v & 15);
    }

    private static void lawNames() {
        due.test(8, "NAMES: m MOOD, g HUNGER, l LAST, h HOUR, r the REMARK, t TEMPER");
        says("m", 3);
        says("g", 9);
        says("l", 5);
        says("h", 21);
        says("r", 4);
        says("t", 8);
        due.test(8, "r the REMARK (0 .. 9; 0: none)");
        for (int remark = 0; remark <= 9; remark++) {
            due.is("r of " + remark, Due.ruled("r").thing(remark), remark);
        }
        due.test(8, "a number (1 to 4 digits)");
        says("7", 7);
        says("10", 10);
        says("0012", 12);
        says("9999", 9999);
        says("9999=9998+1", 1);
        says("0000", 0);
    }

    private static void lawNumbersAndSigns() {
        due.test(8, "| gives 1, 0");
        says("2|4", 1);
        says("0|4", 1);
        says("2|0", 1);
        says("0|0", 0);
        says("-2|0", 1);
        due.test(8, "& gives 1, 0");
        says("2&4", 1);
        says("0&4", 0);
        says("2&0", 0);
        says("0&0", 0);
        due.test(8, "< gives 1, 0");
        says("2<3", 1);
        says("3<3", 0);
        says("4<3", 0);
        says("-1<0", 1);
        due.test(8, "= gives 1, 0");
        says("3=3", 1);
        says("3=19", 0);
        says("3=4", 0);
        due.test(8, "> gives 1, 0");
        says("4>3", 1);
        says("3>3", 0);
        says("2>3", 0);
        says("0>-1", 1);
        due.test(8, "! gives 1, 0");
        says("!0", 1);
        says("!1", 0);
        says("!16", 0);
        says("!-1", 0);
        says("!!7", 1);
        due.test(8, "+ - * and - O");
        says("9+5", 14);
        says("9-5", 4);
        says("5-9", -4);
        says("3*5", 15);
        says("-7", -7);
        says("--7", 7);
        says("9--5", 14);
    }

    private static void lawDivides() {
        due.test(8, "/ and % toward 0");
        says("7/2", 3);
        says("-7/2", -3);
        says("7/-2", -3);
        says("-7/-2", 3);
        says("7%2", 1);
        says("-7%4", -3);
        says("7%-4", 3);
        says("-7%-4", -3);
        says("-1/2", 0);
        due.test(8, "/ by 0 gives 0");
        says("7/0", 0);
        says("0/0", 0);
        says("7/0+5", 5);
        says("7/(m-3)+6", 6);
        due.test(8, "% by 0 gives 0");
        says("7%0", 0);
        says("0%0", 0);
        says("7%0+5", 5);
        says("-7%(m-3)+6", 6);
    }

    private static void lawWraps() {
        String least = "2048*1024*1024";
        due.test(8, "Ints that wrap: *");
        says(least + "<0", 1);
        says("2048*1024*1024*2", 0);
        says("9999*9999*9999*9999", 9999 * 9999 * 9999 * 9999);
        says("9999*9999*9999<0", 9999 * 9999 * 9999 < 0 ? 1 : 0);
        due.test(8, "Ints that wrap: -");
        says(least + "-1>0", 1);
        says("-" + least + "<0", 1);
        says("-(" + least + ")<0", 1);
        due.test(8, "Ints that wrap: +");
        says("(" + least + "-1)+1<0", 1);
        says("(" + least + "-1)+1=" + least, 1);
        due.test(8, "Ints that wrap: / and % of the least by -1");
        says(least + "/-1<0", 1);
        says(least + "/-1=" + least, 1);
        says(least + "%-1", 0);
        says(least + "%-1+6", 6);
    }

    private static void lawOrderOfSigns() {
        due.test(8, "P = O { * O, / O, % O }: by turns from the left");
        says("24/4/2", 3);
        says("7*5%4", 3);
        says("2*7/4", 3);
        says("7/4*2", 2);
        says("9%5*3", 12);
        due.test(8, "S = P { + P, - P }: by turns from the left");
        says("9-3-2", 4);
        says("9-3+2", 8);
        says("1+2*3", 7);
        says("9-4/2", 7);
        says("9%4+3", 4);
        due.test(8, "B = S < S: sums first");
        says("1+2<4", 1);
        says("9-2>3+3", 1);
        says("2*3=3+3", 1);
        due.test(8, "A = B { & B }: comparisons first");
        says("1<2&3", 1);
        says("2&3=2", 0);
        says("1&1&0", 0);
        says("1&1&2", 1);
        due.test(8, "E = A { | A }: & first");
        says("2|0&0", 1);
        says("0&0|2", 1);
        says("0|0|0", 0);
        says("0|0|9", 1);
        due.test(8, "O = ! O, - O, ( E )");
        says("!0+1", 2);
        says("-3+4", 1);
        says("-3*3", -9);
        says("!3=0", 1);
        says("(1+2)*3", 9);
        says("-(1+2)", -3);
        says("!(1|0)+7", 7);
        says("(2|0)&0", 0);
        says("3-(2-1)", 2);
    }

    private static void lawLines() {
        due.test(8, "The first LINE without a first E counts");
        says("9", 9);
        says("9;5", 9);
        says("9;1?5", 9);
        says("0?5;9;1?7", 9);
        due.test(8, "or whose first E is not 0");
        says("1?9;5", 9);
        says("-1?9;5", 9);
        says("16?9;5", 9);
        says("2048*1024*1024?9;5", 9);
        says("0?9;5", 5);
        says("m-3?9;g-9?7;h?6;5", 6);
        says("m=3?0;5", 0);
        says("0?0;5", 5);
        says("0?0;0?0;1?5", 5);
        says("0?7;0;5", 0);
        due.test(8, "none: 0");
        says("0?9", 0);
        says("0?9;0?8;m-3?7", 0);
    }

    // ---- 9: thing

    private static void thingLimits() {
        due.test(9, "the REMARK (0 .. 9; 0: none)");
        for (int remark : new int[] {-1, 10, LEAST, MOST}) {
            due.bad("thing(" + remark + ")", x -> x.thing(remark));
        }
        // furnished: MOOD 5
        due.unchanged(Laid::furnished, "thing(0)", x -> x.thing(0), 5);
        due.unchanged(Laid::furnished, "thing(9)", x -> x.thing(9), 14);
    }

    private static void thingOfFifteenBits() {
        due.test(9, "the THING he says is v & 15");
        String[] texts = {"15", "16", "17", "31", "32", "-1", "-15", "-16", "-17", "9999"};
        int[] things = {15, 0, 1, 15, 0, 15, 1, 0, 15, 15};
        for (int i = 0; i < texts.length; i++) {
            due.is("thing by " + texts[i], Due.ruled(texts[i]).thing(0), things[i]);
        }
    }

    private static void thingWithoutText() {
        due.test(9, "Without a text: m, three times r, g and l together");
        int[][] told = {{0, 0, 0, 0, 0}, {1, 0, 0, 0, 1}, {0, 1, 0, 0, 1}, {0, 0, 1, 0, 1}, {0, 0, 0, 1, 3}, {7, 8, 0, 0, 15},
            {7, 9, 0, 0, 0}, {0, 0, 0, 5, 15}, {0, 0, 1, 5, 0}, {15, 9, 15, 9, 2}};
        for (int[] one : told) {
            Stylite x = Due.made();
            for (int what = 0; what < 3; what++) {
                x.mend(0, what, one[what]);
            }
            x.mend(0, 3, 11);
            x.mend(0, 6, 3);
            due.is("of " + one[0] + ", " + one[1] + ", " + one[2] + " with " + one[3], x.thing(one[3]), one[4]);
        }
    }
}
