import java.util.ArrayList;
import java.util.HashMap;
import java.util.List;
import java.util.Map;

/**
 * The document once more, slowly and by other ways than the class: texts are split and not compiled, plans are
 * searched from whole states, sets are tried one by one, acts are methods of real classes, rows are real arrays.
 */
final class Oracle {
    static final int BAD = -1, NOT = -2, FULL = -3, STATE = -5;

    // him: 0 mood, 1 hunger, 2 last, 3 hour, 4 grows, 5 loud, 6 temper
    int[] him = {0, 0, 0, 6, 1, 5, 7};
    String law = "";
    StringBuilder tape = new StringBuilder();
    final List<int[]> stalls = new ArrayList<>(); // likes, price, cell, sold
    final List<Integer> schools = new ArrayList<>();
    int[] led = new int[5];
    int[] image = null;
    final List<int[]> undone = new ArrayList<>();
    final List<int[]> again = new ArrayList<>();
    final List<Saying> bodies = new ArrayList<>();
    static List<Integer> trace = new ArrayList<>();
    List<Integer> latest = new ArrayList<>();
    final Object[] shelves = new Object[6];

    static boolean in(long v, long least, long greatest) {
        return v >= least && v <= greatest;
    }

    // ---- the law

    /** The place of the first byte with which no text goes on, the length if it ends too early, -1: none. */
    static int fault(String text) {
        List<int[]> outer = new ArrayList<>(); // of each ( that is open: compared outside, open signs outside
        boolean operandDue = true;
        boolean compared = false;
        boolean asked = false;
        int digits = 0;
        int open = 0;
        int base = 0; // signs that stay open behind an operand here
        for (int i = 0; i < text.length(); i++) {
            char c = text.charAt(i);
            if (operandDue) {
                if ("mglhrt".indexOf(c) >= 0) {
                    operandDue = false;
                    digits = 0;
                    open = base;
                } else if (c >= '0' && c <= '9') {
                    operandDue = false;
                    digits = 1;
                    open = base;
                } else if ("(!-".indexOf(c) >= 0 && open < 6) {
                    open++;
                    if (c == '(') {
                        outer.add(new int[] {compared ? 1 : 0, base});
                        compared = false;
                        base = open;
                    }
                } else {
                    return i;
                }
                continue;
            }
            if (c >= '0' && c <= '9' && digits > 0 && digits < 4) {
                digits++;
                continue;
            }
            digits = 0;
            if ("+-*/%".indexOf(c) >= 0) {
                operandDue = true;
            } else if ("<=>".indexOf(c) >= 0 && !compared) {
                compared = true;
                operandDue = true;
            } else if ("&|".indexOf(c) >= 0) {
                compared = false;
                operandDue = true;
            } else if (c == ')' && !outer.isEmpty()) {
                int[] was = outer.remove(outer.size() - 1);
                compared = was[0] == 1;
                base = was[1];
                open = base;
            } else if (c == '?' && outer.isEmpty() && !asked) {
                asked = true;
                compared = false;
                operandDue = true;
            } else if (c == ';' && outer.isEmpty()) {
                asked = false;
                compared = false;
                operandDue = true;
            } else {
                return i;
            }
        }
        return operandDue || !outer.isEmpty() ? text.length() : -1;
    }

    /** The last place, outside of brackets, of one of the signs that stands behind an operand; -1: none. */
    static int lastOf(String e, String signs) {
        int depth = 0;
        for (int i = e.length() - 1; i > 0; i--) {
            char c = e.charAt(i);
            depth += c == ')' ? 1 : c == '(' ? -1 : 0;
            char ahead = e.charAt(i - 1);
            if (depth == 0 && signs.indexOf(c) >= 0 && (Character.isLetterOrDigit(ahead) || ahead == ')')) {
                return i;
            }
        }
        return -1;
    }

    static int value(String e, int[] him, int r) {
        for (String signs : new String[] {"|", "&", "<=>", "+-", "*/%"}) {
            int i = lastOf(e, signs);
            if (i >= 0) {
                int a = value(e.substring(0, i), him, r);
                int b = value(e.substring(i + 1), him, r);
                switch (e.charAt(i)) {
                    case '|': return a != 0 | b != 0 ? 1 : 0;
                    case '&': return a != 0 & b != 0 ? 1 : 0;
                    case '<': return a < b ? 1 : 0;
                    case '=': return a == b ? 1 : 0;
                    case '>': return a > b ? 1 : 0;
                    case '+': return a + b;
                    case '-': return a - b;
                    case '*': return a * b;
                    case '/': return b == 0 ? 0 : a / b;
                    default: return b == 0 ? 0 : a % b;
                }
            }
        }
        char c = e.charAt(0);
        switch (c) {
            case '!': return value(e.substring(1), him, r) == 0 ? 1 : 0;
            case '-': return -value(e.substring(1), him, r);
            case '(': return value(e.substring(1, e.length() - 1), him, r);
            case 'm': return him[0];
            case 'g': return him[1];
            case 'l': return him[2];
            case 'h': return him[3];
            case 'r': return r;
            case 't': return him[6];
            default: return Integer.parseInt(e);
        }
    }

    int says(int[] who, int r) {
        if (law.isEmpty()) {
            return (who[0] + 3 * r + who[1] + who[2]) & 15;
        }
        for (String line : law.split(";")) {
            int ask = line.indexOf('?');
            if (ask < 0 || value(line.substring(0, ask), who, r) != 0) {
                return value(line.substring(ask + 1), who, r) & 15;
            }
        }
        return 0;
    }

    /** An hour of one: {thing, whether it is a lump}. */
    int[] pass(int[] who, int r) {
        int thing = says(who, r);
        boolean lump = thing == 15 || (thing == who[2] && who[1] >= who[6]);
        who[0] = Math.floorMod(who[0] + thing + r, 16);
        who[2] = thing;
        who[1] = Math.min(9, who[1] + who[4]);
        who[3] = who[3] == 23 ? 0 : who[3] + 1;
        return new int[] {thing, lump ? 1 : 0};
    }

    // ---- him, stalls, schools

    int stall(int likes, int price) {
        if (!in(likes, 0, 65535) || !in(price, 0, 99)) {
            return BAD;
        }
        if (stalls.size() == 6) {
            return FULL;
        }
        stalls.add(new int[] {likes, price, 0, 0});
        return stalls.size() - 1;
    }

    int stalls(int shelf, int i, int n) {
        if (!in(shelf, 0, 5) || !in(n, 1, 6)) {
            return BAD;
        }
        Object held = shelves[shelf];
        if (held != null && !(held instanceof int[])) {
            return -12;
        }
        int came = 0;
        try {
            int[] row = (int[]) held;
            for (int k = 0; k < n && stalls.size() < 6; k++) {
                int likes = row[i + 3 * k];
                int price = row[i + 3 * k + 1];
                int cell = row[i + 3 * k + 2];
                if (!in(likes, 0, 65535) || !in(price, 0, 99) || !in(cell, 0, 9)) {
                    return came;
                }
                stalls.add(new int[] {likes, price, cell, 0});
                came++;
            }
        } catch (NullPointerException | ArrayIndexOutOfBoundsException e) {
            return came;
        }
        return came;
    }

    int school(int reads) {
        if (!in(reads, 0, 65535)) {
            return BAD;
        }
        if (schools.size() == 5) {
            return FULL;
        }
        schools.add(reads);
        return schools.size() - 1;
    }

    static final int[] GREATEST = {15, 9, 15, 23, 3, 9, 9, 65535, 99, 9, 65535};

    int mend(int number, int what, int v) {
        if (!in(what, 0, 10)) {
            return BAD;
        }
        int was = of(number, what);
        if (was == BAD || !in(v, 0, GREATEST[what])) {
            return BAD;
        }
        if (was != v) {
            set(number, what, v);
            undone.add(new int[] {number, what, was, v});
            if (undone.size() > 40) {
                undone.remove(0);
            }
            again.clear();
        }
        return was;
    }

    void set(int number, int what, int v) {
        if (what < 7) {
            him[what] = v;
        } else if (what < 10) {
            stalls.get(number)[what - 7] = v;
        } else {
            schools.set(number, v);
        }
    }

    int of(int number, int what) {
        if (in(what, 0, 6)) {
            return number == 0 ? him[what] : BAD;
        }
        if (what == 10) {
            return in(number, 0, schools.size() - 1) ? schools.get(number) : BAD;
        }
        if (!in(what, 7, 11) || !in(number, 0, stalls.size() - 1)) {
            return BAD;
        }
        return stalls.get(number)[what == 11 ? 3 : what - 7];
    }

    int feed(int letter) {
        if (!in(letter, 0, 255)) {
            return BAD;
        }
        if (tape.length() == 120) {
            return FULL;
        }
        return tape.append((char) letter).length();
    }

    int law() {
        String text = tape.toString();
        tape.setLength(0);
        int fault = fault(text);
        if (fault >= 0) {
            return -100 - fault;
        }
        law = text;
        return 1;
    }

    int thing(int remark) {
        return in(remark, 0, 9) ? says(him, remark) : BAD;
    }

    // ---- hours in thought

    /** 0: a row of bytes. */
    int refusal(int shelf) {
        return shelves[shelf] == null ? -11 : shelves[shelf] instanceof byte[] ? 0 : -12;
    }

    byte[] bytes(int shelf) {
        return (byte[]) shelves[shelf];
    }

    static int remark(byte[] row, int i) {
        return row != null && i < row.length && in(row[i], 0, 9) ? row[i] : 0;
    }

    List<int[]> course(int[] who, byte[] remarks, int n) {
        List<int[]> all = new ArrayList<>();
        for (int i = 0; i < n; i++) {
            all.add(pass(who, remark(remarks, i)));
        }
        return all;
    }

    int hours(int shelf, int n, int what) {
        if (!in(shelf, 0, 5) || !in(n, 0, 200) || !in(what, 0, 6)) {
            return BAD;
        }
        if (refusal(shelf) != 0) {
            return refusal(shelf);
        }
        int[] who = him.clone();
        List<int[]> all = course(who, bytes(shelf), n);
        int lumps = 0;
        int first = NOT;
        for (int i = n - 1; i >= 0; i--) {
            if (all.get(i)[1] == 1) {
                lumps++;
                first = i;
            }
        }
        int[] answers = {n == 0 ? NOT : all.get(n - 1)[0], who[0], who[1], who[2], who[3], lumps, first};
        return answers[what];
    }

    int often(int shelf, int n, int thing, int what) {
        if (!in(shelf, 0, 5) || !in(n, 0, 200) || !in(thing, 0, 15) || !in(what, 0, 1)) {
            return BAD;
        }
        if (refusal(shelf) != 0) {
            return refusal(shelf);
        }
        List<int[]> all = course(him.clone(), bytes(shelf), what == 0 ? n : 200);
        int times = 0;
        for (int i = 0; i < all.size(); i++) {
            if (all.get(i)[0] == thing) {
                if (what == 1) {
                    return i;
                }
                times++;
            }
        }
        return what == 1 ? NOT : times;
    }

    int round(int what) {
        if (!in(what, 0, 1)) {
            return BAD;
        }
        Map<String, Integer> seen = new HashMap<>();
        int[] who = him.clone();
        for (int k = 0; k <= 999; k++) {
            Integer ahead = seen.put(who[0] + "," + who[1] + "," + who[2] + "," + who[3], k);
            if (ahead != null) {
                return what == 0 ? k : ahead;
            }
            pass(who, 0);
        }
        return NOT;
    }

    /** What an hour brings in a plan; from the hour's thing, lump and how many hours are left behind it. */
    interface Points {
        int of(int thing, int lump, int left);
    }

    static final int NEVER = -100000;

    int bestFrom(int[] who, int left, int bits, Points points, Map<Long, Integer> known) {
        if (left == 0) {
            return 0;
        }
        long key = (((who[0] * 16L + who[1]) * 16 + who[2]) * 24 + who[3]) * 16 + left;
        Integer was = known.get(key);
        if (was != null) {
            return was;
        }
        int best = NEVER;
        for (int r = 0; r < 10; r++) {
            if ((bits >> r & 1) == 1) {
                best = Math.max(best, by(who, r, left, bits, points, known));
            }
        }
        known.put(key, best);
        return best;
    }

    int by(int[] who, int r, int left, int bits, Points points, Map<Long, Integer> known) {
        int[] next = who.clone();
        int[] hour = pass(next, r);
        return points.of(hour[0], hour[1], left - 1) + bestFrom(next, left - 1, bits, points, known);
    }

    int planned(int n, int told, Points points, int k) {
        int bits = told == 0 ? 1 : told;
        Map<Long, Integer> known = new HashMap<>();
        int best = bestFrom(him, n, bits, points, known);
        if (k == -1) {
            return best;
        }
        int[] who = him.clone();
        for (int i = 0; i < n; i++) {
            for (int r = 0; r < 10; r++) {
                if ((bits >> r & 1) == 1
                        && by(who, r, n - i, bits, points, known) == bestFrom(who, n - i, bits, points, known)) {
                    if (i == k) {
                        return r;
                    }
                    pass(who, r);
                    break;
                }
            }
        }
        return NOT;
    }

    int make(int tr, int k) {
        if (!in(tr, 0, 16383) || k < -1) {
            return BAD;
        }
        Points last = (thing, lump, left) -> left == 0 && thing == tr / 1024 ? 1 : 0;
        for (int n = 1; n <= 12; n++) {
            if (planned(n, tr % 1024, last, -1) == 1) {
                return k == -1 ? n : planned(n, tr % 1024, last, k);
            }
        }
        return NOT;
    }

    int most(int set, int nr, int k) {
        if (!in(set, 0, 65535) || !in(nr, 1024, 12 * 1024 + 1023) || k < -1) {
            return BAD;
        }
        return planned(nr / 1024, nr % 1024, (thing, lump, left) -> set >> thing & 1, k);
    }

    int quiet(int nr, int k) {
        if (!in(nr, 1024, 12 * 1024 + 1023) || k < -1) {
            return BAD;
        }
        int answer = planned(nr / 1024, nr % 1024, (thing, lump, left) -> -lump, k);
        return k == -1 ? -answer : answer;
    }

    /** How many ways to recite from an hour on, in which one hour's remark may be fixed. */
    long ways(int[] who, List<Integer> phrase, int at, int hour, int fixed, Map<Long, Long> known) {
        if (at == phrase.size()) {
            return 1;
        }
        long key = who[0] * 16L + at;
        Long was = known.get(key);
        if (was != null) {
            return was;
        }
        long sum = 0;
        for (int r = 0; r < 10; r++) {
            if (at == hour && r != fixed) {
                continue;
            }
            int[] next = who.clone();
            if (pass(next, r)[0] == phrase.get(at)) {
                sum += ways(next, phrase, at + 1, hour, fixed, known);
            }
        }
        known.put(key, sum);
        return sum;
    }

    List<Integer> phrase(int shelf, int longest) {
        List<Integer> things = new ArrayList<>();
        for (byte b : bytes(shelf)) {
            if (!in(b, 0, 15) || things.size() == longest) {
                break;
            }
            things.add((int) b);
        }
        return things;
    }

    int recite(int shelf, int k) {
        if (!in(shelf, 0, 5) || k < -2) {
            return BAD;
        }
        if (refusal(shelf) != 0) {
            return refusal(shelf);
        }
        List<Integer> phrase = phrase(shelf, 12);
        long all = ways(him, phrase, 0, -1, 0, new HashMap<>());
        if (k == -1) {
            return all > 0 ? 1 : 0;
        }
        if (all == 0) {
            return NOT;
        }
        if (k == -2) {
            int sure = 0;
            for (int i = 0; i < phrase.size(); i++) {
                for (int r = 0; r < 10; r++) {
                    sure += ways(him, phrase, 0, i, r, new HashMap<>()) == all ? 1 : 0;
                }
            }
            return sure;
        }
        int[] who = him.clone();
        for (int i = 0; i < phrase.size(); i++) {
            for (int r = 0; r < 10; r++) {
                int[] next = who.clone();
                if (pass(next, r)[0] == phrase.get(i) && ways(next, phrase, i + 1, -1, 0, new HashMap<>()) > 0) {
                    if (i == k) {
                        return r;
                    }
                    who = next;
                    break;
                }
            }
        }
        return NOT;
    }

    long waysTo(int shelf) {
        if (!in(shelf, 0, 5) || refusal(shelf) != 0) {
            return Long.MIN_VALUE;
        }
        return ways(him, phrase(shelf, 12), 0, -1, 0, new HashMap<>());
    }

    int tellsMost(int n, int what) {
        if (!in(n, 1, 12) || !in(what, 0, 1)) {
            return BAD;
        }
        int[] alike = new int[10];
        int best = 1;
        for (int r = 1; r <= 9; r++) {
            List<int[]> plain = course(him.clone(), null, n);
            List<int[]> other = course(him.clone(), new byte[] {(byte) r}, n);
            for (int i = 0; i < n; i++) {
                alike[r] += plain.get(i)[0] == other.get(i)[0] ? 1 : 0;
            }
            best = alike[r] < alike[best] ? r : best;
        }
        return what == 0 ? best : alike[best];
    }

    // ---- stalls, schools

    int sales(int stall, int cell, List<int[]> all, int from, int to) {
        int sales = 0;
        for (int i = from; i < to; i++) {
            sales += cell <= him[5] && (stalls.get(stall)[0] >> all.get(i)[0] & 1) == 1 ? 1 : 0;
        }
        return sales;
    }

    int sold(int shelf, int n, int stall) {
        if (!in(shelf, 0, 5) || !in(n, 0, 200) || !in(stall, -1, stalls.size() - 1)) {
            return BAD;
        }
        if (refusal(shelf) != 0) {
            return refusal(shelf);
        }
        List<int[]> all = course(him.clone(), bytes(shelf), n);
        if (stall >= 0) {
            return sales(stall, stalls.get(stall)[2], all, 0, n);
        }
        int pence = 0;
        for (int s = 0; s < stalls.size(); s++) {
            pence += stalls.get(s)[1] * sales(s, stalls.get(s)[2], all, 0, n);
        }
        return pence;
    }

    int pence(List<Integer> order, List<int[]> all, int n) {
        int pence = 0;
        for (int cell = 0; cell < order.size(); cell++) {
            pence += stalls.get(order.get(cell))[1] * sales(order.get(cell), cell, all, 0, n);
        }
        return pence;
    }

    int places(int shelf, int n) {
        if (!in(shelf, 0, 5) || !in(n, 0, 200)) {
            return BAD;
        }
        if (refusal(shelf) != 0) {
            return refusal(shelf);
        }
        List<Integer> order = new ArrayList<>();
        for (byte b : bytes(shelf)) {
            if (!in(b, 0, stalls.size() - 1) || order.contains((int) b)) {
                break;
            }
            order.add((int) b);
        }
        return pence(order, course(him.clone(), null, n), n);
    }

    void orders(List<Integer> begun, List<List<Integer>> all) {
        if (begun.size() == stalls.size()) {
            all.add(new ArrayList<>(begun));
            return;
        }
        for (int s = 0; s < stalls.size(); s++) {
            if (!begun.contains(s)) {
                begun.add(s);
                orders(begun, all);
                begun.remove(begun.size() - 1);
            }
        }
    }

    int best(int n, int k) {
        if (!in(n, 0, 200) || k < -1) {
            return BAD;
        }
        List<List<Integer>> all = new ArrayList<>();
        orders(new ArrayList<>(), all);
        List<Integer> best = all.get(0);
        List<int[]> course = course(him.clone(), null, n);
        int most = pence(best, course, n);
        for (List<Integer> order : all) {
            int pence = pence(order, course, n);
            if (pence > most) {
                most = pence;
                best = order;
            }
        }
        return k == -1 ? most : k < best.size() ? best.get(k) : NOT;
    }

    int when(int stall, int w, int what) {
        if (!in(stall, 0, stalls.size() - 1) || !in(w, 1, 24) || !in(what, 0, 1)) {
            return BAD;
        }
        List<int[]> all = course(him.clone(), null, 48);
        int best = 0;
        for (int i = 0; i + w <= 48; i++) {
            int cell = stalls.get(stall)[2];
            best = sales(stall, cell, all, i, i + w) > sales(stall, cell, all, best, best + w) ? i : best;
        }
        return what == 0 ? best : sales(stall, stalls.get(stall)[2], all, best, best + w);
    }

    static int verdict(int yes, List<Integer> phrase) {
        int more = 0;
        for (int thing : phrase) {
            more += (yes >> thing & 1) == 1 ? 1 : -1;
        }
        return more > 0 ? 1 : more < 0 ? 0 : NOT;
    }

    int verdict(int shelf, int school) {
        if (!in(shelf, 0, 5) || !in(school, 0, schools.size() - 1)) {
            return BAD;
        }
        return refusal(shelf) != 0 ? refusal(shelf) : verdict(schools.get(school), phrase(shelf, 60));
    }

    int clash(int shelf, int school) {
        if (!in(shelf, 0, 5) || !in(school, 0, schools.size() - 1)) {
            return BAD;
        }
        if (refusal(shelf) != 0) {
            return refusal(shelf);
        }
        int bits = 0;
        for (int s = 0; s < schools.size(); s++) {
            bits |= verdict(shelf, s) + verdict(shelf, school) == 1 ? 1 << s : 0;
        }
        return bits;
    }

    /** The phrases, each with its verdict (16, 17) as the last one. */
    List<List<Integer>> verdicts(int shelf) {
        List<List<Integer>> all = new ArrayList<>();
        List<Integer> one = new ArrayList<>();
        for (byte b : bytes(shelf)) {
            if (!in(b, 0, 17) || all.size() == 12) {
                break;
            }
            one.add((int) b);
            if (b >= 16) {
                all.add(one);
                one = new ArrayList<>();
            }
        }
        return all;
    }

    static int firstOtherwise(int yes, List<List<Integer>> all) {
        for (int i = 0; i < all.size(); i++) {
            List<Integer> one = all.get(i);
            int due = one.get(one.size() - 1) == 16 ? 1 : 0;
            if (verdict(yes, one.subList(0, one.size() - 1)) != due) {
                return i;
            }
        }
        return NOT;
    }

    int judge(int shelf, int school) {
        if (!in(shelf, 0, 5) || !in(school, 0, schools.size() - 1)) {
            return BAD;
        }
        return refusal(shelf) != 0 ? refusal(shelf) : firstOtherwise(schools.get(school), verdicts(shelf));
    }

    int read(int shelf, int what) {
        if (!in(shelf, 0, 5) || !in(what, 0, 1)) {
            return BAD;
        }
        if (refusal(shelf) != 0) {
            return refusal(shelf);
        }
        List<List<Integer>> all = verdicts(shelf);
        int best = -1;
        for (int set = 0; set < 65536; set++) {
            if ((best < 0 || Integer.bitCount(set) < Integer.bitCount(best)) && firstOtherwise(set, all) == NOT) {
                best = set;
            }
        }
        return best < 0 ? NOT : what == 0 ? Integer.bitCount(best) : best;
    }

    int drawn(int seed, int nm, int tt, int what) {
        if (nm < 0 || tt < 0 || !in(nm / 100, 1, 30) || !in(nm % 100, 1, 24) || !in(tt / 100, 0, 15)
                || !in(tt % 100, 0, 12) || !in(what, 0, 1)) {
            return BAD;
        }
        int z = seed;
        int lumps = 0;
        int times = 0;
        for (int night = 0; night < nm / 100; night++) {
            int[] who = him.clone();
            for (int i = 0; i < nm % 100; i++) {
                z = (int) (z * 1103515245L + 12345L);
                long u = z & 0xffffffffL;
                int[] hour = pass(who, u / 65536 % 12 < tt % 100 ? (int) (u / 256 % 10) : 0);
                lumps += hour[1];
                times += hour[0] == tt / 100 ? 1 : 0;
            }
        }
        return what == 0 ? lumps : times;
    }

    // ---- in deed

    int hour(int remark) {
        if (!in(remark, 0, 9)) {
            return BAD;
        }
        int[] hour = pass(him, remark);
        led[0]++;
        led[1] += hour[1];
        led[2] += remark > 0 ? 1 : 0;
        for (int[] s : stalls) {
            if (s[2] <= him[5] && (s[0] >> hour[0] & 1) == 1) {
                s[3]++;
                led[3] += s[1];
            }
        }
        return hour[0] + 16 * hour[1];
    }

    int fed(int v) {
        if (!in(v, 0, 9)) {
            return BAD;
        }
        him[1] = him[1] < v ? 0 : him[1] - v;
        led[4]++;
        return him[1];
    }

    int led(int what) {
        return in(what, 0, 4) ? led[what] : BAD;
    }

    int image() {
        image = new int[] {him[0], him[1], him[2], him[3], led[0], led[1], led[2], led[3], led[4]};
        return led[0];
    }

    int back() {
        if (image == null) {
            return STATE;
        }
        System.arraycopy(image, 0, him, 0, 4);
        System.arraycopy(image, 4, led, 0, 5);
        return led[0];
    }

    int undo() {
        if (undone.isEmpty()) {
            return STATE;
        }
        int[] one = undone.remove(undone.size() - 1);
        set(one[0], one[1], one[2]);
        again.add(one);
        return undone.size();
    }

    int redo() {
        if (again.isEmpty()) {
            return STATE;
        }
        int[] one = again.remove(again.size() - 1);
        set(one[0], one[1], one[3]);
        undone.add(one);
        return again.size();
    }

    // ---- acts

    interface Says {
        int n();

        default int says(int x) {
            trace.add(1);
            return x + n();
        }
    }

    interface Tells {
        int falls(int x);

        int sells(int x);

        default int tells(int x) {
            trace.add(2);
            return falls(x) - sells(1);
        }
    }

    static class Saying implements Says, Tells {
        int n;
        int kind;

        public int n() {
            return n;
        }

        public int falls(int x) {
            trace.add(10);
            return says(x) * 2;
        }

        public int sells(int x) {
            trace.add(11);
            return x ^ n;
        }
    }

    static class Prayer extends Saying {
        public int says(int x) {
            trace.add(20);
            return super.says(x) + 3;
        }
    }

    static class Mutter extends Saying {
        public int falls(int x) {
            trace.add(30);
            return -super.falls(x);
        }
    }

    static class Curse extends Mutter {
        public int sells(int x) {
            trace.add(40);
            return super.sells(x) * 3;
        }

        public int falls(int x) {
            trace.add(41);
            return super.falls(x + 1);
        }
    }

    static class Harp extends Prayer {
        public int tells(int x) {
            trace.add(50);
            return super.tells(x) ^ 5;
        }
    }

    static class Flesh extends Curse {
        public int sells(int x) {
            trace.add(60);
            return super.sells(x) - says(2);
        }

        public int tells(int x) {
            trace.add(61);
            return super.tells(x) + 1;
        }
    }

    static class Well extends Saying {
        public int says(int x) {
            trace.add(70);
            return super.says(x) * 2;
        }
    }

    static class Lump extends Well {
        public int falls(int x) {
            trace.add(80);
            return super.falls(x) + sells(2);
        }

        public int says(int x) {
            trace.add(81);
            return super.says(x) - 1;
        }
    }

    static final Class<?>[] KINDS = {Saying.class, Prayer.class, Mutter.class, Curse.class, Harp.class, Flesh.class,
        Well.class, Lump.class};

    int body(int kind) {
        if (!in(kind, 0, 7)) {
            return BAD;
        }
        if (bodies.size() == 50) {
            return FULL;
        }
        Saying[] made = {new Saying(), new Prayer(), new Mutter(), new Curse(), new Harp(), new Flesh(), new Well(),
            new Lump()};
        made[kind].n = bodies.size();
        made[kind].kind = kind;
        bodies.add(made[kind]);
        return bodies.size() - 1;
    }

    int act(int body, int act, int x) {
        trace = new ArrayList<>();
        latest = trace;
        if (!in(body, 0, bodies.size() - 1) || !in(act, 0, 3)) {
            return 0;
        }
        Saying one = bodies.get(body);
        switch (act) {
            case 0: return one.says(x);
            case 1: return one.falls(x);
            case 2: return one.sells(x);
            default: return one.tells(x);
        }
    }

    int trace(int i) {
        return in(i, 0, Math.min(24, latest.size()) - 1) ? latest.get(i) : BAD;
    }

    // ---- shelves

    int keep(int shelf, int body) {
        if (!in(shelf, 0, 5) || !in(body, -1, bodies.size() - 1)) {
            return BAD;
        }
        shelves[shelf] = body < 0 ? null : bodies.get(body);
        return 1;
    }

    int row(int shelf, int sort, int n) {
        if (!in(shelf, 0, 5) || !in(sort, 0, 4) || n > 60) {
            return BAD;
        }
        try {
            switch (sort) {
                case 0: shelves[shelf] = new byte[n]; break;
                case 1: shelves[shelf] = new short[n]; break;
                case 2: shelves[shelf] = new int[n]; break;
                case 3: shelves[shelf] = new long[n]; break;
                default: shelves[shelf] = new boolean[n]; break;
            }
        } catch (NegativeArraySizeException e) {
            return -14;
        }
        return 1;
    }

    int put(int shelf, int i, long v) {
        if (!in(shelf, 0, 5)) {
            return BAD;
        }
        Object held = shelves[shelf];
        try {
            if (held == null) {
                return -11;
            } else if (held instanceof byte[]) {
                ((byte[]) held)[i] = (byte) v;
            } else if (held instanceof short[]) {
                ((short[]) held)[i] = (short) v;
            } else if (held instanceof int[]) {
                ((int[]) held)[i] = (int) v;
            } else if (held instanceof long[]) {
                ((long[]) held)[i] = v;
            } else {
                ((boolean[]) held)[i] = v != 0;
            }
        } catch (ArrayIndexOutOfBoundsException e) {
            return -13;
        } catch (ClassCastException e) {
            return -12;
        }
        return 1;
    }

    long element(int shelf, int i) {
        try {
            Object held = shelves[shelf];
            if (held instanceof boolean[]) {
                return ((boolean[]) held)[i] ? 1 : 0;
            }
            return ((Number) java.lang.reflect.Array.get(held, i)).longValue();
        } catch (RuntimeException e) {
            return Long.MIN_VALUE;
        }
    }

    int shift(int shelf, int i, int other, int j, int n) {
        if (!in(shelf, 0, 5) || !in(other, 0, 5)) {
            return BAD;
        }
        try {
            System.arraycopy(shelves[shelf], i, shelves[other], j, n);
            return n;
        } catch (NullPointerException e) {
            return -11;
        } catch (ArrayStoreException e) {
            return -12;
        } catch (IndexOutOfBoundsException e) {
            return -13;
        }
    }

    int taken(int shelf, int k) {
        if (!in(shelf, 0, 5) || !in(k, 0, 7)) {
            return BAD;
        }
        if (shelves[shelf] == null) {
            return -11;
        }
        return KINDS[k].isInstance(shelves[shelf]) ? ((Saying) shelves[shelf]).kind : -12;
    }

    int count(int what) {
        int[] all = {stalls.size(), schools.size(), tape.length(), undone.size(), bodies.size(), latest.size()};
        return in(what, 0, 5) ? all[what] : BAD;
    }
}
