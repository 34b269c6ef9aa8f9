/**
 * Every call with every mixture of numbers near and far, on objects that are new, furnished and full, up to their 512th
 * call: each is answered as by the oracle, and none throws.
 */
public final class AnyArgumentsTest {
    private static final int LEAST = Integer.MIN_VALUE, MOST = Integer.MAX_VALUE;

    /** By how many numbers a call takes: of which each may be any. */
    private static final int[][] NUMBERS = {
        {},
        {LEAST, LEAST + 1, -65536, -1024, -129, -101, -100, -14, -3, -2, -1, 0, 1, 2, 3, 4, 5, 6, 7, 8, 9, 10, 11, 12, 13, 15, 16,
            23, 24, 25, 31, 32, 48, 49, 50, 60, 61, 99, 100, 101, 119, 120, 127, 128, 199, 200, 201, 255, 256, 999, 1000, 1023,
            1024, 1025, 65535, 65536, 1 << 24, MOST - 2, MOST - 1, MOST},
        {LEAST, -1024, -101, -3, -2, -1, 0, 1, 2, 3, 4, 5, 6, 7, 9, 10, 12, 13, 15, 16, 23, 49, 50, 60, 61, 99, 100, 199, 200, 201,
            1023, 1024, 1025, 4099, 12288, 13311, 13312, 16383, 16384, 65535, 65536, MOST - 1, MOST},
        {LEAST, -3, -2, -1, 0, 1, 2, 4, 5, 6, 7, 9, 10, 12, 15, 16, 24, 25, 59, 60, 61, 99, 200, 201, 1023, 1028, 13312, 65535,
            65536, MOST - 1, MOST},
        {LEAST, -1, 0, 1, 2, 5, 6, 15, 16, 101, 200, 201, 712, 1512, 3024, MOST},
        {LEAST, -1, 0, 1, 4, 5, 6, 60, MOST},
    };
    private static final long[] LONGS = {Long.MIN_VALUE, -32769, -129, -1, 0, 1, 9, 127, 128, 256, 65536, 1L << 32,
        Long.MAX_VALUE};

    private static long answers;
    private static int wrong;

    private interface Laying {
        void on(Both both);
    }

    private Both both;
    private final Laying laying;
    private final String name;
    private final Class<?>[] kinds;
    private final Object[] numbers;

    private AnyArgumentsTest(Laying laying, String name) {
        this.laying = laying;
        this.name = name;
        kinds = Both.kindsOf(name);
        numbers = new Object[kinds.length];
        lay();
    }

    public static void main(String[] args) {
        Watch.begin("AnyArgumentsTest");
        for (String name : Both.names()) {
            new AnyArgumentsTest(both -> { }, name).mix(0);
            new AnyArgumentsTest(AnyArgumentsTest::furnish, name).mix(0);
            new AnyArgumentsTest(AnyArgumentsTest::fill, name).mix(0);
        }
        System.out.println("AnyArgumentsTest: " + answers + " answers, " + wrong + " not as due");
        if (wrong > 0) {
            System.exit(1);
        }
    }

    private void lay() {
        both = new Both();
        laying.on(both);
    }

    private void mix(int i) {
        if (i == numbers.length) {
            ask();
            return;
        }
        if (kinds[i] == long.class) {
            for (long v : LONGS) {
                numbers[i] = v;
                mix(i + 1);
            }
            return;
        }
        for (int v : NUMBERS[numbers.length]) {
            numbers[i] = v;
            mix(i + 1);
        }
    }

    private void ask() {
        if (both.callsLeft() == 0) {
            lay();
        }
        check(both.fault(name, numbers));
    }

    private static void check(String fault) {
        answers++;
        if (fault != null) {
            wrong++;
            if (wrong < 20) {
                System.out.println(fault);
            }
        }
    }

    private static void bytes(Both both, int shelf, int... items) {
        check(both.fault("row", shelf, 0, items.length));
        for (int i = 0; i < items.length; i++) {
            check(both.fault("put", shelf, i, (long) items[i]));
        }
    }

    private static void rule(Both both, String text) {
        for (char c : text.toCharArray()) {
            check(both.fault("feed", (int) c));
        }
        check(both.fault("law"));
    }

    private static void furnish(Both both) {
        rule(both, "m>9?r*5;m*3+r+l");
        for (int i = 0; i < 3; i++) {
            check(both.fault("stall", 4369 << i, 10 + i));
            check(both.fault("school", 21845 >> i));
            check(both.fault("body", 3 + i));
        }
        check(both.fault("hour", 4));
        check(both.fault("image"));
        check(both.fault("fed", 1));
        for (int what = 0; what <= 10; what++) {
            check(both.fault("mend", 0, what, 2));
        }
        check(both.fault("undo"));
        check(both.fault("undo"));
        check(both.fault("act", 2, 3, 5));
        bytes(both, 0, 3, 9, 0, 1, 4, 4, 7);
        bytes(both, 1, 2, 0, 1);
        bytes(both, 2, 8, 2, 3, 16, 4, 4, 1, 17, 6, 16);
        check(both.fault("keep", 3, 2));
        check(both.fault("row", 4, 2, 7));
        check(both.fault("feed", (int) 'g'));
    }

    private static void fill(Both both) {
        rule(both, "15");
        for (int i = 0; i < 6; i++) {
            check(both.fault("stall", 65535, 99));
            check(both.fault("row", i, i % 5, 60));
        }
        for (int i = 0; i < 5; i++) {
            check(both.fault("school", 65535));
        }
        for (int i = 0; i < 50; i++) {
            check(both.fault("body", i % 8));
        }
        for (int i = 0; i < 41; i++) {
            check(both.fault("mend", 5, 7, i));
        }
        for (int i = 0; i < 120; i++) {
            check(both.fault("feed", (int) "1+".charAt(i % 2)));
        }
        check(both.fault("act", 5, 3, MOST));
        check(both.fault("hour", 9));
    }
}
