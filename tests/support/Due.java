/** Counts the answers that are not as due, and says which; with short words for what tests often lay. */
final class Due {
    private int wrong;
    private int asked;
    private int promise;
    private final String name;

    Due(String name) {
        this.name = name;
    }

    void promise(int number) {
        promise = number;
    }

    void is(String call, long got, long want) {
        asked++;
        if (got != want) {
            wrong++;
            System.out.println("promise " + promise + ": " + call + " answered " + got + ", due is " + want);
        }
    }

    void same(String call, String before, String after) {
        asked++;
        if (!before.equals(after)) {
            wrong++;
            System.out.println("promise " + promise + ": " + call + " changed " + before + " to " + after);
        }
    }

    void end() {
        System.out.println(name + ": " + asked + " answers, " + wrong + " not as due");
        if (wrong > 0) {
            System.exit(1);
        }
    }

    static StyliteOverheard made() {
        return new StyliteOverheard();
    }

    /** One whose law is the text. */
    static StyliteOverheard ruled(String text) {
        StyliteOverheard x = new StyliteOverheard();
        if (law(x, text) != 1) {
            throw new IllegalStateException("no text: " + text);
        }
        return x;
    }

    static int law(StyliteOverheard x, String text) {
        for (int i = 0; i < text.length(); i++) {
            x.feed(text.charAt(i));
        }
        return x.law();
    }

    static void lay(StyliteOverheard x, int shelf, int sort, long... items) {
        x.row(shelf, sort, items.length);
        for (int i = 0; i < items.length; i++) {
            x.put(shelf, i, items[i]);
        }
    }

    static void bytes(StyliteOverheard x, int shelf, long... items) {
        lay(x, shelf, 0, items);
    }

    /** All that can be asked of one without changing it. */
    static String state(StyliteOverheard x) {
        StringBuilder all = new StringBuilder();
        for (int what = 0; what < 12; what++) {
            for (int number = 0; number < 6; number++) {
                all.append(x.of(number, what)).append(' ');
            }
            all.append(x.led(what)).append(' ').append(x.count(what)).append(' ').append(x.thing(what)).append(' ');
        }
        for (int shelf = 0; shelf < 6; shelf++) {
            for (int i = 0; i < 60; i++) {
                long v = x.element(shelf, i);
                all.append(v == Long.MIN_VALUE ? "." : v + " ");
            }
            all.append(x.taken(shelf, 0)).append(' ');
        }
        for (int i = 0; i < 24; i++) {
            all.append(x.trace(i)).append(' ');
        }
        return all.toString();
    }
}
