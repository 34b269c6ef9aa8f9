import java.util.Random;

/** Runs of calls drawn from fixed seeds: each answer is the one that the slow oracle gives. */
public final class OracleTest {
    private static final int RUNS = 400, LEFT_TO_COMPARE = 280, CALL_KINDS = 43;

    private final Random random;
    private final Stylite x = new Stylite();
    private final Oracle o = new Oracle();
    private final StringBuilder said = new StringBuilder();
    private boolean wrong;

    private OracleTest(long seed) {
        random = new Random(seed);
    }

    public static void main(String[] args) {
        Watch.begin("OracleTest");
        int wrongs = 0;
        for (int run = 0; run < RUNS && wrongs < 5; run++) {
            OracleTest one = new OracleTest(run);
            while (one.x.callsLeft() > LEFT_TO_COMPARE && !one.wrong) {
                one.call();
            }
            if (!one.wrong) {
                one.compareAll(run);
            }
            if (one.wrong) {
                wrongs++;
                System.out.println("run " + run + ":" + one.said);
            }
        }
        System.out.println(wrongs == 0 ? "OracleTest: all answers are as due" : "OracleTest: wrong answers");
        if (wrongs > 0) {
            System.exit(1);
        }
    }

    private void due(String call, long got, long want, int... args) {
        if (call != null && (args.length > 0 || got != want)) {
            said.append("\n  ").append(call).append(java.util.Arrays.toString(args)).append(" = ").append(got);
        }
        if (got != want) {
            said.append(", due is ").append(want);
            wrong = true;
        }
    }

    /** Mostly from the told range, sometimes its ends, one beyond, or anything. */
    private int some(int least, int greatest) {
        int kind = random.nextInt(60);
        if (kind == 0) {
            return least - 1;
        }
        if (kind == 1) {
            return greatest + 1;
        }
        if (kind == 2) {
            int[] far = {Integer.MIN_VALUE, Integer.MAX_VALUE, -100, 1 << 20, Integer.MAX_VALUE - 1};
            return far[random.nextInt(far.length)];
        }
        if (kind < 8) {
            return least;
        }
        if (kind < 14) {
            return greatest;
        }
        return least + random.nextInt(greatest - least + 1);
    }

    private boolean chance(int percent) {
        return random.nextInt(100) < percent;
    }

    private int someBits() {
        int bits = chance(30) ? random.nextInt(1024) : 1 << random.nextInt(10) | 1 << random.nextInt(10);
        return chance(10) ? 0 : bits;
    }

    private int someSet() {
        return chance(50) ? some(0, 65535) : 1 << random.nextInt(16) | 1 << random.nextInt(16);
    }

    private void call() {
        int kind = random.nextInt(CALL_KINDS + 4);
        if (kind < 9) {
            callHim(kind);
        } else if (kind < 18) {
            callThought(kind);
        } else if (kind < 27) {
            callVillage(kind);
        } else if (kind < 34) {
            callDeed(kind);
        } else {
            callShelf(kind);
        }
    }

    private void callHim(int kind) {
        int a;
        int b;
        int c;
        switch (kind) {
            case 0:
                a = someSet();
                b = some(0, 99);
                due("stall", x.stall(a, b), o.stall(a, b), a, b);
                break;
            case 1:
                a = some(0, 5);
                b = some(0, 12);
                c = some(1, 6);
                if (chance(70)) {
                    layStalls(a);
                    b = some(0, 3);
                }
                due("stalls", x.stalls(a, b, c), o.stalls(a, b, c), a, b, c);
                break;
            case 2:
                a = someSet();
                due("school", x.school(a), o.school(a), a);
                break;
            case 3:
            case 8:
                b = some(0, 10);
                a = b < 7 && chance(90) ? 0 : some(0, 5);
                c = some(0, b >= 0 && b < 11 ? Oracle.GREATEST[b] : 9);
                due("mend", x.mend(a, b, c), o.mend(a, b, c), a, b, c);
                break;
            case 4:
                b = some(0, 11);
                a = b < 7 && chance(90) ? 0 : some(0, 5);
                due("of", x.of(a, b), o.of(a, b), a, b);
                break;
            case 5:
                if (chance(70)) {
                    feedText();
                } else {
                    a = some(0, 255);
                    due("feed", x.feed(a), o.feed(a), a);
                }
                break;
            case 6:
                if (chance(60)) {
                    feedText();
                }
                due("law", x.law(), o.law(), 0);
                break;
            default:
                a = some(0, 9);
                due("thing", x.thing(a), o.thing(a), a);
                break;
        }
    }

    private void callThought(int kind) {
        int a = some(0, 5);
        int b = some(0, 200);
        int c;
        int d;
        int k = chance(60) ? some(-1, 12) : -1;
        switch (kind) {
            case 9:
                c = some(0, 6);
                due("hours", x.hours(a, b, c), o.hours(a, b, c), a, b, c);
                break;
            case 10:
                c = some(0, 15);
                d = some(0, 1);
                due("often", x.often(a, b, c, d), o.often(a, b, c, d), a, b, c, d);
                break;
            case 11:
                c = some(0, 1);
                due("round", x.round(c), o.round(c), c);
                break;
            case 12:
                c = chance(10) ? some(0, 16383) : random.nextInt(16) * 1024 + someBits();
                due("make", x.make(c, k), o.make(c, k), c, k);
                break;
            case 13:
                if (chance(80)) {
                    layPhrase(a);
                }
                c = some(-2, 12);
                due("recite", x.recite(a, c), o.recite(a, c), a, c);
                break;
            case 14:
                if (chance(80)) {
                    layPhrase(a);
                }
                due("waysTo", x.waysTo(a), o.waysTo(a), a);
                break;
            case 15:
                c = someSet();
                d = chance(10) ? some(1024, 13311) : 1024 * (1 + random.nextInt(12)) + someBits();
                due("most", x.most(c, d, k), o.most(c, d, k), c, d, k);
                break;
            case 16:
                d = chance(10) ? some(1024, 13311) : 1024 * (1 + random.nextInt(12)) + someBits();
                due("quiet", x.quiet(d, k), o.quiet(d, k), d, k);
                break;
            default:
                c = some(1, 12);
                d = some(0, 1);
                due("tellsMost", x.tellsMost(c, d), o.tellsMost(c, d), c, d);
                break;
        }
    }

    private void callVillage(int kind) {
        int a = some(0, 5);
        int n = chance(50) ? some(0, 200) : some(0, 9);
        int b;
        int c;
        int d;
        switch (kind) {
            case 18:
                b = some(-1, 5);
                due("sold", x.sold(a, n, b), o.sold(a, n, b), a, n, b);
                break;
            case 19:
                if (chance(70)) {
                    layOrder(a);
                }
                due("places", x.places(a, n), o.places(a, n), a, n);
                break;
            case 20:
                b = some(-1, 6);
                due("best", x.best(n, b), o.best(n, b), n, b);
                break;
            case 21:
                b = some(1, 24);
                c = some(0, 1);
                due("when", x.when(a, b, c), o.when(a, b, c), a, b, c);
                break;
            case 22:
                b = some(0, 4);
                due("verdict", x.verdict(a, b), o.verdict(a, b), a, b);
                break;
            case 23:
                b = some(0, 4);
                due("clash", x.clash(a, b), o.clash(a, b), a, b);
                break;
            case 24:
                if (chance(70)) {
                    layVerdicts(a);
                }
                b = some(0, 4);
                due("judge", x.judge(a, b), o.judge(a, b), a, b);
                break;
            case 25:
                if (chance(80)) {
                    layVerdicts(a);
                }
                b = some(0, 1);
                due("read", x.read(a, b), o.read(a, b), a, b);
                break;
            default:
                b = 100 * some(1, 30) + some(1, 24);
                c = 100 * some(0, 15) + some(0, 12);
                d = some(0, 1);
                n = random.nextInt();
                due("drawn", x.drawn(n, b, c, d), o.drawn(n, b, c, d), n, b, c, d);
                break;
        }
    }

    private void callDeed(int kind) {
        int a;
        switch (kind) {
            case 27:
                a = some(0, 9);
                due("hour", x.hour(a), o.hour(a), a);
                break;
            case 28:
                a = some(0, 9);
                due("fed", x.fed(a), o.fed(a), a);
                break;
            case 29:
                a = some(0, 4);
                due("led", x.led(a), o.led(a), a);
                break;
            case 30:
                due("image", x.image(), o.image(), 0);
                break;
            case 31:
                due("back", x.back(), o.back(), 0);
                break;
            case 32:
                due("undo", x.undo(), o.undo(), 0);
                break;
            default:
                due("redo", x.redo(), o.redo(), 0);
                break;
        }
    }

    private void callShelf(int kind) {
        int a = some(0, 5);
        int b;
        int c;
        int d;
        int e;
        switch (kind) {
            case 34:
                b = some(0, 7);
                due("body", x.body(b), o.body(b), b);
                break;
            case 35:
                a = some(0, o.bodies.size() + 1);
                b = some(0, 3);
                c = chance(50) ? random.nextInt() : some(-9, 9);
                due("act", x.act(a, b, c), o.act(a, b, c), a, b, c);
                break;
            case 36:
                b = some(0, 8);
                due("trace", x.trace(b), o.trace(b), b);
                break;
            case 37:
                b = some(-1, o.bodies.size());
                due("keep", x.keep(a, b), o.keep(a, b), a, b);
                break;
            case 38:
                b = chance(60) ? 0 : some(0, 4);
                c = chance(20) ? -random.nextInt(5) : some(0, 60);
                due("row", x.row(a, b, c), o.row(a, b, c), a, b, c);
                break;
            case 39:
            case 40:
                b = some(0, 20);
                long v = chance(50) ? random.nextInt(20) : random.nextLong();
                due("put " + v, x.put(a, b, v), o.put(a, b, v), a, b);
                break;
            case 41:
                b = some(0, 20);
                due("element", x.element(a, b), o.element(a, b), a, b);
                break;
            case 42:
            case 43:
                b = some(0, 20);
                c = chance(50) ? a : some(0, 5);
                d = some(0, 20);
                e = some(0, 20);
                due("shift", x.shift(a, b, c, d, e), o.shift(a, b, c, d, e), a, b, c, d, e);
                break;
            case 44:
                b = some(0, 7);
                due("taken", x.taken(a, b), o.taken(a, b), a, b);
                break;
            default:
                b = some(0, 5);
                due("count", x.count(b), o.count(b), b);
                break;
        }
    }

    // ---- what is laid for a call

    private void lay(int shelf, int sort, int... items) {
        due("row", x.row(shelf, sort, items.length), o.row(shelf, sort, items.length), shelf, sort, items.length);
        for (int i = 0; i < items.length; i++) {
            due("put " + items[i], x.put(shelf, i, items[i]), o.put(shelf, i, items[i]), shelf, i);
        }
    }

    private void layStalls(int shelf) {
        int[] items = new int[random.nextInt(21)];
        for (int i = 0; i < items.length; i++) {
            items[i] = i % 3 == 0 ? someSet() : i % 3 == 1 ? some(0, 99) : some(0, 9);
        }
        lay(shelf, 2, items);
    }

    /** One that he may say, so that most have a way; now and then with a thing of its own. */
    private void layPhrase(int shelf) {
        int[] items = new int[random.nextInt(15)];
        int[] who = o.him.clone();
        for (int i = 0; i < items.length; i++) {
            items[i] = o.pass(who, random.nextInt(10))[0];
            if (chance(2)) {
                items[i] = some(0, 15);
            }
        }
        lay(shelf, 0, items);
    }

    private void layOrder(int shelf) {
        int[] items = new int[random.nextInt(8)];
        for (int i = 0; i < items.length; i++) {
            items[i] = chance(60) ? i : random.nextInt(7);
        }
        lay(shelf, 0, items);
    }

    private void layVerdicts(int shelf) {
        int[] items = new int[random.nextInt(61)];
        int longest = 1 + random.nextInt(9);
        int things = 1 + random.nextInt(16);
        for (int i = 0; i < items.length; i++) {
            items[i] = random.nextInt(longest) == 0 ? 16 + random.nextInt(2) : random.nextInt(things);
            if (random.nextInt(200) == 0) {
                items[i] = 18 + random.nextInt(300);
            }
        }
        lay(shelf, 0, items);
    }

    // ---- texts

    private void feedText() {
        StringBuilder text = new StringBuilder();
        for (int tries = 0; tries < 9 && (tries == 0 || text.length() > 110); tries++) {
            text.setLength(0);
            drawText(text);
        }
        if (o.tape.length() > 0 && chance(70)) {
            due("law", x.law(), o.law(), 0);
        }
        for (int i = 0; i < text.length() && i < 121; i++) {
            int letter = text.charAt(i);
            due("feed", x.feed(letter), o.feed(letter), letter);
        }
        if (chance(60)) {
            due("law", x.law(), o.law(), 0);
        }
    }

    private void drawText(StringBuilder text) {
        int lines = 1 + random.nextInt(3);
        for (int i = 0; i < lines; i++) {
            text.append(i > 0 ? ";" : "");
            if (chance(50)) {
                term(text, 0, 3);
                text.append('?');
            }
            term(text, 0, 3);
        }
        for (int i = chance(25) ? 1 + random.nextInt(3) : 0; i > 0 && text.length() > 0; i--) {
            String letters = "mglhrt0123456789!-+*/%<=>&|()?; x";
            int place = random.nextInt(text.length());
            char letter = letters.charAt(random.nextInt(letters.length()));
            if (chance(50)) {
                text.setCharAt(place, letter);
            } else if (chance(50)) {
                text.insert(place, letter);
            } else {
                text.setLength(place);
            }
        }
    }

    /** By levels: 0 or, 1 and, 2 compared, 3 sum, 4 product, 5 operand. */
    private void term(StringBuilder text, int level, int size) {
        if (level == 5) {
            operand(text, size);
            return;
        }
        String[] signs = {"|", "&", "<=>", "+-", "*/%"};
        int more = level == 2 ? random.nextInt(2) : random.nextInt(3);
        if (random.nextInt(4) > size || level < 3 && chance(70)) {
            more = 0;
        }
        term(text, level + 1, size);
        for (int i = 0; i < more; i++) {
            text.append(signs[level].charAt(random.nextInt(signs[level].length())));
            term(text, level + 1, size - 1);
        }
    }

    private void operand(StringBuilder text, int size) {
        int kind = random.nextInt(10);
        if (kind < 5) {
            text.append("mglhrt".charAt(random.nextInt(6)));
        } else if (kind < 7 || size <= 0) {
            text.append(random.nextInt(chance(50) ? 10 : 10000));
        } else if (kind == 7) {
            text.append('(');
            term(text, 0, size - 1);
            text.append(')');
        } else {
            text.append(kind == 8 ? '!' : '-');
            operand(text, size);
        }
    }

    /** As much of all that can be seen as the calls that are left allow; by the run, which shelves come first. */
    private void compareAll(int run) {
        for (int what = 0; what < 12; what++) {
            for (int number = 0; number < 6; number++) {
                due("of", x.of(number, what), o.of(number, what));
            }
        }
        for (int what = 0; what < 6; what++) {
            due("led", x.led(what), o.led(what));
            due("count", x.count(what), o.count(what));
        }
        for (int i = 0; i < 6; i++) {
            compareShelf((run + i) % 6);
        }
    }

    private void compareShelf(int shelf) {
        for (int k = 0; k < 8 && x.callsLeft() > 0; k++) {
            due("taken", x.taken(shelf, k), o.taken(shelf, k));
        }
        for (int i = -1; i < 61 && x.callsLeft() > 0; i++) {
            due("element", x.element(shelf, i), o.element(shelf, i));
        }
    }
}
