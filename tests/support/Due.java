/** Counts the answers that are not as due, and says which; with short words for what tests often lay. */
final class Due {
    /** What is done with a new object ahead of the call that is looked at. */
    interface Laying {
        void on(Stylite x);
    }

    /** The call that is looked at. */
    interface Call {
        long of(Stylite x);
    }

    /** The call that is looked at, of a shelf. */
    interface ShelfCall {
        long of(Stylite x, int shelf);
    }

    private int wrong;
    private int asked;
    private int tests;
    private int promise;
    private String sentence = "";
    private final String name;

    Due(String name) {
        this.name = name;
        Watch.begin(name);
    }

    void promise(int number) {
        test(number, "");
    }

    /** Here begins a test of its own: of a promise, and of a sentence of it. */
    void test(int number, String itsSentence) {
        tests++;
        promise = number;
        sentence = itsSentence;
    }

    void is(String call, long got, long want) {
        asked++;
        if (got != want) {
            fault(call + " answered " + got + ", due is " + want);
        }
    }

    void same(String call, String before, String after) {
        asked++;
        if (!before.equals(after)) {
            fault(call + " changed " + before + " to " + after);
        }
    }

    private void fault(String words) {
        wrong++;
        System.out.println("promise " + promise + (sentence.isEmpty() ? "" : " (" + sentence + ")") + ": " + words);
    }

    /** The call answers so and changes nothing: one with it and one without it answer alike ever after. */
    void unchanged(Laying laid, String call, Call one, long want) {
        Stylite with = new Stylite();
        laid.on(with);
        is(call, one.of(with), want);
        Stylite without = new Stylite();
        laid.on(without);
        same(call, Probe.answers(without), Probe.answers(with));
    }

    /** One that is not as it may be: BAD, and nothing changes. */
    void bad(String call, Call one) {
        unchanged(Laid::furnished, call, one, StyliteOverheard.BAD);
    }

    /** One that is not as it may be beside its shelf: BAD, whatever the shelf holds; and nothing changes. */
    void badOnAnyShelf(String call, ShelfCall one) {
        for (int shelf = 0; shelf <= 5; shelf++) {
            int its = shelf;
            bad(call + " of shelf " + shelf, x -> one.of(x, its));
        }
    }

    /** One that wants a row of bytes on its shelf: what it answers of all that is none. */
    void wantsBytes(int number, String call, ShelfCall one, long none, long lacks, long other) {
        test(number, "SHELVES 0 .. 5");
        for (int shelf : new int[] {-1, 6, Integer.MIN_VALUE, Integer.MAX_VALUE}) {
            unchanged(Laid::furnished, call + " of shelf " + shelf, x -> one.of(x, shelf), none);
        }
        for (int shelf = 0; shelf <= 5; shelf++) {
            Stylite x = made();
            Laid.furnished(x);
            bytes(x, shelf, 1, 2, 3);
            long answer = one.of(x, shelf);
            is(call + " of shelf " + shelf + " is refused", answer == none || answer == lacks || answer == other ? 1 : 0, 0);
        }
        test(number, "-11 nothing is there where something is wanted");
        unchanged(Laid::furnished, call + " of nothing", x -> one.of(x, Laid.NOTHING), lacks);
        test(number, "-12 (no ROW of bytes)");
        unchanged(Laid::furnished, call + " of a body", x -> one.of(x, Laid.BODY), other);
        for (int sort = 1; sort <= 4; sort++) {
            int its = sort;
            unchanged(x -> {
                Laid.furnished(x);
                x.row(0, its, 3);
            }, call + " of sort " + sort, x -> one.of(x, 0), other);
        }
    }

    void end() {
        System.out.println(name + ": " + tests + " tests, " + asked + " answers, " + wrong + " not as due");
        if (wrong > 0) {
            System.exit(1);
        }
    }

    static Stylite made() {
        return new Stylite();
    }

    /** One whose law is the text. */
    static Stylite ruled(String text) {
        Stylite x = new Stylite();
        rule(x, text);
        return x;
    }

    static void rule(Stylite x, String text) {
        if (law(x, text) != 1) {
            throw new IllegalStateException("no text: " + text);
        }
    }

    static void feed(Stylite x, String text) {
        for (int i = 0; i < text.length(); i++) {
            x.feed(text.charAt(i));
        }
    }

    static int law(Stylite x, String text) {
        feed(x, text);
        return x.law();
    }

    static void lay(Stylite x, int shelf, int sort, long... items) {
        x.row(shelf, sort, items.length);
        for (int i = 0; i < items.length; i++) {
            if (items[i] != 0) {
                x.put(shelf, i, items[i]);
            }
        }
    }

    static void bytes(Stylite x, int shelf, long... items) {
        lay(x, shelf, 0, items);
    }
}
