/** Objects as the tests of edges want them ahead of a call. */
final class Laid {
    /** The shelves of a furnished one. */
    static final int BYTES = 0, INTS = 1, BODY = 2, NOTHING = 3, BOOLEANS = 4, OTHER_BYTES = 5;
    static final int BODIES = 50, TAPE = 120, CHANGES = 40, STALLS = 6, SCHOOLS = 5;

    private Laid() {
    }

    /**
     * One of which nothing is as at first: two stalls, two schools, a law, deeds, an image, changes that may be undone and
     * done again, two bodies, the trace of an act, rows and a body on shelves, a byte on the tape.
     */
    static void furnished(Stylite x) {
        Due.rule(x, "m+r");
        x.stall(65535, 3);
        x.stall(6, 5);
        x.school(6);
        x.school(65529);
        x.hour(2);
        x.fed(1);
        x.image();
        x.hour(1);
        x.mend(1, 9, 4);
        x.mend(0, 0, 5);
        x.mend(0, 8, 7);
        x.undo();
        x.body(0);
        x.body(3);
        x.act(1, 3, 1);
        Due.bytes(x, BYTES, 1, 2, 3);
        Due.lay(x, INTS, 2, 7, 8, 9);
        x.keep(BODY, 1);
        Due.lay(x, BOOLEANS, 4, 1, 0, 1);
        Due.bytes(x, OTHER_BYTES, 9, 8, 7, 6, 5);
        x.feed('g');
    }

    static void fullOfStalls(Stylite x) {
        for (int i = 0; i < STALLS; i++) {
            x.stall(i, i);
        }
    }

    static void fullOfSchools(Stylite x) {
        for (int i = 0; i < SCHOOLS; i++) {
            x.school(i);
        }
    }

    /** A text of the greatest length; by it he says 59 and 11 together. */
    static void fullTape(Stylite x) {
        Due.feed(x, fullText());
    }

    static String fullText() {
        return repeated("1+", 59) + "11";
    }

    static void fullOfBodies(Stylite x) {
        for (int i = 0; i < BODIES; i++) {
            x.body(i % 8);
        }
    }

    static String repeated(String text, int times) {
        StringBuilder all = new StringBuilder();
        for (int i = 0; i < times; i++) {
            all.append(text);
        }
        return all.toString();
    }

    /** One ruled by the text, of whom all numbers are unlike: MOOD 3, HUNGER 9, LAST 5, HOUR 21, TEMPER 8. */
    static Stylite told(String text) {
        Stylite x = Due.ruled(text);
        x.mend(0, 0, 3);
        x.mend(0, 1, 9);
        x.mend(0, 2, 5);
        x.mend(0, 3, 21);
        x.mend(0, 6, 8);
        return x;
    }

    /** By draws from a seed: how often each REMARK comes in so many hours. */
    static int[] drawnRemarks(int seed, int hours, int talks) {
        int[] times = new int[16];
        long z = seed;
        for (int i = 0; i < hours; i++) {
            z = z * 1103515245L + 12345L & 0xffffffffL;
            times[z / 65536 % 12 < talks ? (int) (z / 256 % 10) : 0]++;
        }
        return times;
    }
}
