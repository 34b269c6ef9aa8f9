/** One on a pillar mutters by a law told as a text, and the village lives by what comes down. */
public final class StyliteOverheard {
    public static final int BAD = -1, NOT = -2, FULL = -3, STATE = -5, VOID = -2000000000;

    private static final int NOTHING_THERE = -11, OTHER_KIND = -12, NO_PLACE = -13, BELOW_ZERO = -14;
    private static final int THINGS = 16, REMARKS = 10, SETS = 65536, BITS = 1024, LONGEST = 200, SHELVES = 6;
    private static final int PLANNED = 12, ROUNDS = 999, TWO_DAYS = 48;
    private static final int LOUD = 5, TEMPER = 6, LIKES = 7, PRICE = 8, CELL = 9, READS = 10, SOLD = 11;

    /** By what of mend(): the greatest number that may be told; the least is always 0. */
    private static final int[] GREATEST = {15, 9, 15, 23, 3, 9, 9, 65535, 99, 9, 65535};

    private final Him him = new Him();
    private final Him thought = new Him();
    private final Law law = new Law();
    private final Village village = new Village();
    private final Schools schools = new Schools();
    private final Ledger ledger = new Ledger();
    private final Changes changes = new Changes();
    private final Acts acts = new Acts();
    private final Planner planner = new Planner();
    private final Reciter reciter = new Reciter();
    private final Shelf[] shelves = new Shelf[SHELVES];
    private final int[] track = new int[ROUNDS + 1];

    public StyliteOverheard() {
        for (int i = 0; i < shelves.length; i++) {
            shelves[i] = new Shelf();
        }
    }

    // ---- him, stalls, schools

    public int stall(int likes, int price) {
        if (!isWithin(LIKES, likes) || !isWithin(PRICE, price)) {
            return BAD;
        }
        return village.added(likes, price, 0);
    }

    public int stalls(int shelf, int i, int n) {
        Shelf from = shelfAt(shelf);
        if (from == null || n < 1 || n > Village.MOST) {
            return BAD;
        }
        if (from.holds == Shelf.NOTHING) {
            return 0;
        }
        if (!from.isRowOf(Shelf.INTS)) {
            return OTHER_KIND;
        }
        int came = 0;
        while (came < n && hasCome(from, i, came)) {
            came++;
        }
        return came;
    }

    public int school(int reads) {
        return isWithin(READS, reads) ? schools.added(reads) : BAD;
    }

    public int mend(int number, int what, int v) {
        if (!isTold(number, what) || !isWithin(what, v)) {
            return BAD;
        }
        int was = toldOf(number, what);
        if (was != v) {
            tell(number, what, v);
            changes.note(number, what, was, v);
        }
        return was;
    }

    public int of(int number, int what) {
        if (what == SOLD) {
            return village.has(number) ? at(village.sold, number) : BAD;
        }
        return isTold(number, what) ? toldOf(number, what) : BAD;
    }

    public int feed(int letter) {
        return letter < 0 || letter > 255 ? BAD : law.took(letter);
    }

    public int law() {
        int fault = law.faultOfTape();
        return fault < 0 ? 1 : -100 - fault;
    }

    public int thing(int remark) {
        return isRemark(remark) ? law.saidBy(him, remark) : BAD;
    }

    // ---- hours in thought

    public int hours(int shelf, int n, int what) {
        Shelf remarks = shelfAt(shelf);
        if (remarks == null || !isCourse(n) || what < 0 || what > 6) {
            return BAD;
        }
        if (!remarks.isRowOf(Shelf.BYTES)) {
            return remarks.refusal();
        }
        think(remarks, n);
        switch (what) {
            case 0:
                return n == 0 ? NOT : thought.last;
            case 5:
                return lumpsIn(n);
            case 6:
                return firstLumpIn(n);
            default:
                return thought.told(what - 1);
        }
    }

    public int often(int shelf, int n, int thing, int what) {
        Shelf remarks = shelfAt(shelf);
        if (remarks == null || !isCourse(n) || !isThing(thing) || !isEither(what)) {
            return BAD;
        }
        if (!remarks.isRowOf(Shelf.BYTES)) {
            return remarks.refusal();
        }
        if (what == 0) {
            think(remarks, n);
            return saidIn(n, 1 << thing);
        }
        think(remarks, LONGEST);
        return firstIn(LONGEST, thing);
    }

    public int round(int what) {
        if (!isEither(what)) {
            return BAD;
        }
        thought.becomes(him);
        track[0] = thought.allAsOne();
        for (int k = 1; k <= ROUNDS; k++) {
            thought.mutters(law, 0);
            track[k] = thought.allAsOne();
            int ahead = sameAhead(k);
            if (ahead >= 0) {
                return what == 0 ? k : ahead;
            }
        }
        return NOT;
    }

    public int make(int tr, int k) {
        if (tr < 0 || tr >= THINGS * BITS || k < -1) {
            return BAD;
        }
        planner.plan(Planner.SAY, 1 << (tr / BITS), PLANNED, tr % BITS, him, law);
        if (planner.hours == 0) {
            return NOT;
        }
        return k < 0 ? planner.hours : planner.remarkAt(k);
    }

    public int recite(int shelf, int k) {
        Shelf phrase = shelfAt(shelf);
        if (phrase == null || k < -2) {
            return BAD;
        }
        if (!phrase.isRowOf(Shelf.BYTES)) {
            return phrase.refusal();
        }
        long ways = reciter.waysOf(phrase, him, law);
        if (k == -1) {
            return ways > 0 ? 1 : 0;
        }
        if (ways == 0) {
            return NOT;
        }
        return k == -2 ? reciter.sureOnes(him.mood) : reciter.remarkAt(k, him.mood);
    }

    public long waysTo(int shelf) {
        Shelf phrase = shelfAt(shelf);
        if (phrase == null || !phrase.isRowOf(Shelf.BYTES)) {
            return Long.MIN_VALUE;
        }
        return reciter.waysOf(phrase, him, law);
    }

    public int most(int set, int nr, int k) {
        if (set < 0 || set >= SETS || !isPlan(nr) || k < -1) {
            return BAD;
        }
        int said = planner.plan(Planner.MOST, set, nr / BITS, nr % BITS, him, law);
        return k < 0 ? said : planner.remarkAt(k);
    }

    public int quiet(int nr, int k) {
        if (!isPlan(nr) || k < -1) {
            return BAD;
        }
        int lumps = -planner.plan(Planner.QUIET, 0, nr / BITS, nr % BITS, him, law);
        return k < 0 ? lumps : planner.remarkAt(k);
    }

    public int tellsMost(int n, int what) {
        if (n < 1 || n > PLANNED || !isEither(what)) {
            return BAD;
        }
        think(null, n);
        int best = 0;
        int fewest = n + 1;
        for (int remark = 1; remark < REMARKS; remark++) {
            int alike = agreeing(remark, n);
            if (alike < fewest) {
                fewest = alike;
                best = remark;
            }
        }
        return what == 0 ? best : fewest;
    }

    // ---- stalls, schools

    public int sold(int shelf, int n, int stall) {
        Shelf remarks = shelfAt(shelf);
        if (remarks == null || !isCourse(n) || stall != -1 && !village.has(stall)) {
            return BAD;
        }
        if (!remarks.isRowOf(Shelf.BYTES)) {
            return remarks.refusal();
        }
        think(remarks, n);
        if (stall >= 0) {
            return salesOf(stall, at(village.cell, stall), n);
        }
        int pence = 0;
        for (int s = 0; s < village.count; s++) {
            pence += penceOf(s, at(village.cell, s), n);
        }
        return pence;
    }

    public int places(int shelf, int n) {
        Shelf order = shelfAt(shelf);
        if (order == null || !isCourse(n)) {
            return BAD;
        }
        if (!order.isRowOf(Shelf.BYTES)) {
            return order.refusal();
        }
        think(null, n);
        int pence = 0;
        int there = 0;
        for (int cell = 0; cell < order.size; cell++) {
            int s = order.byteAt(cell);
            if (!village.has(s) || (there >> s & 1) != 0) {
                return pence;
            }
            there |= 1 << s;
            pence += penceOf(s, cell, n);
        }
        return pence;
    }

    public int best(int n, int k) {
        if (!isCourse(n) || k < -1) {
            return BAD;
        }
        think(null, n);
        for (int s = 0; s < village.count; s++) {
            village.weigh(s, penceOf(s, 0, n));
        }
        int pence = village.bestOrder(him.loud);
        if (k < 0) {
            return pence;
        }
        return k < village.count ? at(village.best, k) : NOT;
    }

    public int when(int stall, int w, int what) {
        if (!village.has(stall) || w < 1 || w > 24 || !isEither(what)) {
            return BAD;
        }
        think(null, TWO_DAYS);
        int best = 0;
        int most = -1;
        for (int from = 0; from + w <= TWO_DAYS; from++) {
            int sales = 0;
            for (int i = from; i < from + w; i++) {
                sales += village.sells(stall, at(track, i), him.loud) ? 1 : 0;
            }
            if (sales > most) {
                most = sales;
                best = from;
            }
        }
        return what == 0 ? best : most;
    }

    public int verdict(int shelf, int school) {
        Shelf phrase = shelfAt(shelf);
        if (phrase == null || !schools.has(school)) {
            return BAD;
        }
        if (!phrase.isRowOf(Shelf.BYTES)) {
            return phrase.refusal();
        }
        schools.hear(phrase);
        return schools.saidBy(at(schools.reads, school), 0);
    }

    public int clash(int shelf, int school) {
        Shelf phrase = shelfAt(shelf);
        if (phrase == null || !schools.has(school)) {
            return BAD;
        }
        if (!phrase.isRowOf(Shelf.BYTES)) {
            return phrase.refusal();
        }
        schools.hear(phrase);
        return schools.against(school);
    }

    public int judge(int shelf, int school) {
        Shelf verdicts = shelfAt(shelf);
        if (verdicts == null || !schools.has(school)) {
            return BAD;
        }
        if (!verdicts.isRowOf(Shelf.BYTES)) {
            return verdicts.refusal();
        }
        schools.gather(verdicts);
        return schools.firstOtherwise(at(schools.reads, school));
    }

    public int read(int shelf, int what) {
        Shelf verdicts = shelfAt(shelf);
        if (verdicts == null || !isEither(what)) {
            return BAD;
        }
        if (!verdicts.isRowOf(Shelf.BYTES)) {
            return verdicts.refusal();
        }
        schools.gather(verdicts);
        int set = schools.fewestYes();
        if (set < 0) {
            return NOT;
        }
        return what == 0 ? Integer.bitCount(set) : set;
    }

    public int drawn(int seed, int nm, int tt, int what) {
        int nights = nm / 100;
        int hours = nm % 100;
        int thing = tt / 100;
        int talks = tt % 100;
        if (nm < 0 || nights < 1 || nights > 30 || hours < 1 || hours > 24 || !isEither(what)) {
            return BAD;
        }
        if (tt < 0 || !isThing(thing) || talks > 12) {
            return BAD;
        }
        int z = seed;
        int found = 0;
        for (int night = 0; night < nights; night++) {
            thought.becomes(him);
            for (int i = 0; i < hours; i++) {
                z = z * 1103515245 + 12345;
                int said = thought.mutters(law, (z >>> 16) % 12 < talks ? (z >>> 8) % 10 : 0);
                boolean counts = what == 0 ? said >= THINGS : said % THINGS == thing;
                found += counts ? 1 : 0;
            }
        }
        return found;
    }

    // ---- in deed

    public int hour(int remark) {
        if (!isRemark(remark)) {
            return BAD;
        }
        int said = him.mutters(law, remark);
        ledger.noteHour(said >= THINGS, remark, village.sellFor(said % THINGS, him.loud));
        return said;
    }

    public int fed(int v) {
        if (v < 0 || v > 9) {
            return BAD;
        }
        him.hunger = Math.max(0, him.hunger - v);
        ledger.feedings++;
        return him.hunger;
    }

    public int led(int what) {
        switch (what) {
            case 0:
                return ledger.hours;
            case 1:
                return ledger.lumps;
            case 2:
                return ledger.remarks;
            case 3:
                return ledger.pence;
            case 4:
                return ledger.feedings;
            default:
                return BAD;
        }
    }

    public int image() {
        ledger.keepImage(him);
        return ledger.hours;
    }

    public int back() {
        if (!ledger.imaged) {
            return STATE;
        }
        ledger.layBack(him);
        return ledger.hours;
    }

    public int undo() {
        int i = changes.takenBack();
        if (i < 0) {
            return STATE;
        }
        tell(at(changes.number, i), at(changes.what, i), at(changes.was, i));
        return changes.done;
    }

    public int redo() {
        int i = changes.takenAgain();
        if (i < 0) {
            return STATE;
        }
        tell(at(changes.number, i), at(changes.what, i), at(changes.becomes, i));
        return changes.kept - changes.done;
    }

    // ---- acts, shelves

    public int body(int kind) {
        return kind < 0 || kind >= Acts.KINDS ? BAD : acts.added(kind);
    }

    public int act(int body, int act, int x) {
        return acts.done(body, act, x);
    }

    public int trace(int i) {
        return i < 0 || i >= acts.ran || i >= Acts.TRACED ? BAD : at(acts.traced, i);
    }

    public int keep(int shelf, int body) {
        Shelf into = shelfAt(shelf);
        if (into == null || body != -1 && !acts.has(body)) {
            return BAD;
        }
        into.holds = body < 0 ? Shelf.NOTHING : Shelf.BODY;
        into.body = body;
        return 1;
    }

    public int row(int shelf, int sort, int n) {
        Shelf into = shelfAt(shelf);
        if (into == null || sort < 0 || sort > Shelf.BOOLEANS || n > Shelf.MOST) {
            return BAD;
        }
        if (n < 0) {
            return BELOW_ZERO;
        }
        into.holdRow(sort, n);
        return 1;
    }

    public int put(int shelf, int i, long v) {
        Shelf into = shelfAt(shelf);
        if (into == null) {
            return BAD;
        }
        if (into.holds != Shelf.ROW) {
            return into.refusal();
        }
        return into.hasPut(i, v) ? 1 : NO_PLACE;
    }

    public long element(int shelf, int i) {
        Shelf from = shelfAt(shelf);
        if (from == null || from.holds != Shelf.ROW || i < 0 || i >= from.size) {
            return Long.MIN_VALUE;
        }
        return from.itemAt(i);
    }

    public int shift(int shelf, int i, int other, int j, int n) {
        Shelf from = shelfAt(shelf);
        Shelf to = shelfAt(other);
        if (from == null || to == null) {
            return BAD;
        }
        if (from.holds == Shelf.NOTHING || to.holds == Shelf.NOTHING) {
            return NOTHING_THERE;
        }
        if (from.holds != Shelf.ROW || to.holds != Shelf.ROW || from.sort != to.sort) {
            return OTHER_KIND;
        }
        if (n < 0 || !from.hasStretch(i, n) || !to.hasStretch(j, n)) {
            return NO_PLACE;
        }
        System.arraycopy(from.items, i, to.items, j, n);
        return n;
    }

    public int taken(int shelf, int k) {
        Shelf from = shelfAt(shelf);
        if (from == null || k < 0 || k >= Acts.KINDS) {
            return BAD;
        }
        if (from.holds == Shelf.NOTHING) {
            return NOTHING_THERE;
        }
        if (from.holds != Shelf.BODY || !acts.isUnder(from.body, k)) {
            return OTHER_KIND;
        }
        return at(acts.kinds, from.body);
    }

    public int count(int what) {
        switch (what) {
            case 0:
                return village.count;
            case 1:
                return schools.count;
            case 2:
                return law.fed;
            case 3:
                return changes.done;
            case 4:
                return acts.count;
            case 5:
                return acts.ran;
            default:
                return BAD;
        }
    }

    // ---- what the calls share

    private static int at(int[] row, int i) {
        return i >= 0 && i < row.length ? row[i] : 0;
    }

    private static boolean isThing(int v) {
        return v >= 0 && v < THINGS;
    }

    private static boolean isRemark(int v) {
        return v >= 0 && v < REMARKS;
    }

    private static boolean isCourse(int n) {
        return n >= 0 && n <= LONGEST;
    }

    private static boolean isEither(int what) {
        return what == 0 || what == 1;
    }

    private static boolean isPlan(int nr) {
        return nr >= BITS && nr < (PLANNED + 1) * BITS;
    }

    private static boolean isWithin(int what, int v) {
        return v >= 0 && v <= at(GREATEST, what);
    }

    private Shelf shelfAt(int i) {
        return i >= 0 && i < shelves.length ? shelves[i] : null;
    }

    private boolean isTold(int number, int what) {
        if (what < 0 || what > READS) {
            return false;
        }
        if (what <= TEMPER) {
            return number == 0;
        }
        return what == READS ? schools.has(number) : village.has(number);
    }

    private int toldOf(int number, int what) {
        return what <= TEMPER ? him.told(what) : at(rowOf(what), number);
    }

    private void tell(int number, int what, int v) {
        if (what <= TEMPER) {
            him.tell(what, v);
            return;
        }
        int[] row = rowOf(what);
        if (number >= 0 && number < row.length) {
            row[number] = v;
        }
    }

    private int[] rowOf(int what) {
        switch (what) {
            case LIKES:
                return village.likes;
            case PRICE:
                return village.price;
            case CELL:
                return village.cell;
            default:
                return schools.reads;
        }
    }

    /** Whether the three of a row behind so many others became a stall. */
    private boolean hasCome(Shelf from, int i, int ahead) {
        if (i < 0 || i > from.size || i + 3 * ahead + 3 > from.size || village.count >= Village.MOST) {
            return false;
        }
        int first = i + 3 * ahead;
        int likes = (int) from.itemAt(first);
        int price = (int) from.itemAt(first + 1);
        int cell = (int) from.itemAt(first + 2);
        if (!isWithin(LIKES, likes) || !isWithin(PRICE, price) || !isWithin(CELL, cell)) {
            return false;
        }
        return village.added(likes, price, cell) >= 0;
    }

    /** The track then holds what he says hour by hour (16 more: a lump); no shelf: no remarks. */
    private void think(Shelf remarks, int n) {
        thought.becomes(him);
        for (int i = 0; i < n && i < track.length; i++) {
            track[i] = thought.mutters(law, remarks == null ? 0 : remarks.remarkOf(i));
        }
    }

    private int lumpsIn(int n) {
        int lumps = 0;
        for (int i = 0; i < n && i < track.length; i++) {
            lumps += track[i] >= THINGS ? 1 : 0;
        }
        return lumps;
    }

    private int firstLumpIn(int n) {
        for (int i = 0; i < n && i < track.length; i++) {
            if (track[i] >= THINGS) {
                return i;
            }
        }
        return NOT;
    }

    private int saidIn(int n, int set) {
        int said = 0;
        for (int i = 0; i < n && i < track.length; i++) {
            said += set >> (track[i] & 15) & 1;
        }
        return said;
    }

    private int firstIn(int n, int thing) {
        for (int i = 0; i < n && i < track.length; i++) {
            if ((track[i] & 15) == thing) {
                return i;
            }
        }
        return NOT;
    }

    /** The hour of the day is part of it, so only whole days ahead can be the same. */
    private int sameAhead(int k) {
        for (int ahead = k % 24; ahead < k; ahead += 24) {
            if (at(track, ahead) == at(track, k)) {
                return ahead;
            }
        }
        return NOT;
    }

    private int agreeing(int remark, int n) {
        thought.becomes(him);
        int alike = 0;
        for (int i = 0; i < n; i++) {
            int said = thought.mutters(law, i == 0 ? remark : 0);
            alike += said % THINGS == at(track, i) % THINGS ? 1 : 0;
        }
        return alike;
    }

    private int salesOf(int stall, int cell, int n) {
        return cell <= him.loud ? saidIn(n, at(village.likes, stall)) : 0;
    }

    private int penceOf(int stall, int cell, int n) {
        return salesOf(stall, cell, n) * at(village.price, stall);
    }

    /** His numbers, in deed or in thought. */
    private static final class Him {
        int mood;
        int hunger;
        int last;
        int hour = 6;
        int grows = 1;
        int loud = 5;
        int temper = 7;

        void becomes(Him other) {
            mood = other.mood;
            hunger = other.hunger;
            last = other.last;
            hour = other.hour;
            grows = other.grows;
            loud = other.loud;
            temper = other.temper;
        }

        int told(int what) {
            switch (what) {
                case 0:
                    return mood;
                case 1:
                    return hunger;
                case 2:
                    return last;
                case 3:
                    return hour;
                case 4:
                    return grows;
                case LOUD:
                    return loud;
                default:
                    return temper;
            }
        }

        void tell(int what, int v) {
            switch (what) {
                case 0:
                    mood = v;
                    break;
                case 1:
                    hunger = v;
                    break;
                case 2:
                    last = v;
                    break;
                case 3:
                    hour = v;
                    break;
                case 4:
                    grows = v;
                    break;
                case LOUD:
                    loud = v;
                    break;
                default:
                    temper = v;
                    break;
            }
        }

        /** An hour passes: the thing, 16 more if it is a lump. */
        int mutters(Law law, int remark) {
            int said = law.saidBy(this, remark);
            boolean lump = isLump(said);
            mood = (mood + said + remark) % THINGS;
            last = said;
            ageAnHour();
            return lump ? said + THINGS : said;
        }

        boolean isLump(int said) {
            return said == 15 || said == last && hunger >= temper;
        }

        /** What an hour does whatever is said in it. */
        void ageAnHour() {
            hunger = Math.min(9, hunger + grows);
            hour = (hour + 1) % 24;
        }

        int allAsOne() {
            return ((mood * 10 + hunger) * THINGS + last) * 24 + hour;
        }
    }

    /** The tape, and the law that a tape became: postfix code by lines. */
    private static final class Law {
        private static final int TAPE = 120, LINES = 60, DEEPEST = 6, NUMBER = 1000, NEGATIVE = 126;

        int fed;
        private final int[] tape = new int[TAPE];
        private int place;
        private Code now = new Code();
        private Code draft = new Code();
        private final int[] stack = new int[TAPE];

        int took(int letter) {
            if (fed >= TAPE) {
                return FULL;
            }
            tape[fed] = letter;
            fed++;
            return fed;
        }

        /** The fault, and below 0 where there is none: then it is the law. */
        int faultOfTape() {
            boolean isText = parsed();
            fed = 0;
            if (!isText) {
                return place;
            }
            Code old = now;
            now = draft;
            draft = old;
            return -1;
        }

        /** Stops with the place at the first byte that does not go on. */
        private boolean parsed() {
            place = 0;
            draft.clear();
            for (int i = 0; i < LINES; i++) {
                if (!hasLine()) {
                    return false;
                }
                if (place >= fed) {
                    return true;
                }
                if (!hasSeen(';')) {
                    return false;
                }
            }
            return false;
        }

        private boolean hasLine() {
            int asked = draft.length;
            if (!hasEither(0)) {
                return false;
            }
            if (hasSeen('?')) {
                asked = draft.length;
                if (!hasEither(0)) {
                    return false;
                }
            }
            draft.endLine(asked);
            return true;
        }

        private boolean hasEither(int open) {
            boolean fine = hasBoth(open);
            for (int i = 0; i < TAPE && fine && hasSeen('|'); i++) {
                fine = hasBoth(open);
                draft.add('|');
            }
            return fine;
        }

        private boolean hasBoth(int open) {
            boolean fine = hasCompared(open);
            for (int i = 0; i < TAPE && fine && hasSeen('&'); i++) {
                fine = hasCompared(open);
                draft.add('&');
            }
            return fine;
        }

        private boolean hasCompared(int open) {
            if (!hasSum(open)) {
                return false;
            }
            int sign = signSeen('<', '=', '>');
            if (sign == 0) {
                return true;
            }
            boolean fine = hasSum(open);
            draft.add(sign);
            return fine;
        }

        private boolean hasSum(int open) {
            boolean fine = hasProduct(open);
            int sign = fine ? signSeen('+', '-', '-') : 0;
            for (int i = 0; i < TAPE && sign != 0; i++) {
                fine = hasProduct(open);
                draft.add(sign);
                sign = fine ? signSeen('+', '-', '-') : 0;
            }
            return fine;
        }

        private boolean hasProduct(int open) {
            boolean fine = hasOperand(open);
            int sign = fine ? signSeen('*', '/', '%') : 0;
            for (int i = 0; i < TAPE && sign != 0; i++) {
                fine = hasOperand(open);
                draft.add(sign);
                sign = fine ? signSeen('*', '/', '%') : 0;
            }
            return fine;
        }

        private boolean hasOperand(int open) {
            int c = byteHere();
            if (isDigit(c)) {
                addNumber();
                return true;
            }
            if (isName(c)) {
                place++;
                draft.add(c);
                return true;
            }
            if (open >= DEEPEST) {
                return false;
            }
            return hasNested(c, open + 1);
        }

        private boolean hasNested(int sign, int open) {
            if (sign != '(' && sign != '!' && sign != '-') {
                return false;
            }
            place++;
            if (sign == '(') {
                return hasEither(open) && hasSeen(')');
            }
            boolean fine = hasOperand(open);
            draft.add(sign == '!' ? sign : NEGATIVE);
            return fine;
        }

        private void addNumber() {
            int v = 0;
            for (int digits = 0; digits < 4 && isDigit(byteHere()); digits++) {
                v = v * 10 + byteHere() - '0';
                place++;
            }
            draft.add(NUMBER + v);
        }

        private static boolean isDigit(int c) {
            return c >= '0' && c <= '9';
        }

        private static boolean isName(int c) {
            return c == 'm' || c == 'g' || c == 'l' || c == 'h' || c == 'r' || c == 't';
        }

        /** Below 0 where the tape ends. */
        private int byteHere() {
            return place >= 0 && place < fed && place < TAPE ? tape[place] : -1;
        }

        private boolean hasSeen(int sign) {
            boolean is = byteHere() == sign;
            if (is) {
                place++;
            }
            return is;
        }

        /** Which of three is here, gone by then; 0: none. */
        private int signSeen(int a, int b, int c) {
            int here = byteHere();
            if (here != a && here != b && here != c) {
                return 0;
            }
            place++;
            return here;
        }

        /** The thing that one with these numbers says. */
        int saidBy(Him who, int remark) {
            if (now.lines == 0) {
                return who.mood + 3 * remark + who.hunger + who.last & 15;
            }
            int from = 0;
            for (int i = 0; i < now.lines && i < LINES; i++) {
                int asked = now.asked[i];
                if (asked == from || worked(from, asked, who, remark) != 0) {
                    return worked(asked, now.ends[i], who, remark) & 15;
                }
                from = now.ends[i];
            }
            return 0;
        }

        private int worked(int from, int to, Him who, int remark) {
            int top = 0;
            for (int i = from; i < to && i >= 0 && i < TAPE; i++) {
                int c = now.signs[i];
                if (c >= NUMBER || isName(c)) {
                    if (top >= TAPE) {
                        return 0;
                    }
                    stack[top] = c >= NUMBER ? c - NUMBER : named(c, who, remark);
                    top++;
                } else if (c == '!' || c == NEGATIVE) {
                    if (top < 1) {
                        return 0;
                    }
                    int v = stack[top - 1];
                    stack[top - 1] = c == NEGATIVE ? -v : v == 0 ? 1 : 0;
                } else {
                    if (top < 2) {
                        return 0;
                    }
                    top--;
                    stack[top - 1] = joined(c, stack[top - 1], stack[top]);
                }
            }
            return top > 0 ? stack[top - 1] : 0;
        }

        private static int named(int c, Him who, int remark) {
            switch (c) {
                case 'm':
                    return who.mood;
                case 'g':
                    return who.hunger;
                case 'l':
                    return who.last;
                case 'h':
                    return who.hour;
                case 'r':
                    return remark;
                default:
                    return who.temper;
            }
        }

        private static int joined(int sign, int a, int b) {
            switch (sign) {
                case '|':
                    return a != 0 || b != 0 ? 1 : 0;
                case '&':
                    return a != 0 && b != 0 ? 1 : 0;
                case '<':
                    return a < b ? 1 : 0;
                case '=':
                    return a == b ? 1 : 0;
                case '>':
                    return a > b ? 1 : 0;
                case '+':
                    return a + b;
                case '-':
                    return a - b;
                case '*':
                    return a * b;
                case '/':
                    return b == 0 ? 0 : a / b;
                default:
                    return b == 0 ? 0 : a % b;
            }
        }
    }

    /** Signs in postfix order; by line where its question ends (its start: none), and where it ends. */
    private static final class Code {
        final int[] signs = new int[Law.TAPE];
        final int[] asked = new int[Law.LINES];
        final int[] ends = new int[Law.LINES];
        int length;
        int lines;

        void clear() {
            length = 0;
            lines = 0;
        }

        void add(int sign) {
            if (length < signs.length) {
                signs[length] = sign;
                length++;
            }
        }

        void endLine(int from) {
            if (lines < asked.length && lines < ends.length) {
                asked[lines] = from;
                ends[lines] = length;
                lines++;
            }
        }
    }

    /** The stalls, and the orders that they may stand in. */
    private static final class Village {
        private static final int MOST = 6, ORDERS = 720;

        int count;
        final int[] likes = new int[MOST];
        final int[] price = new int[MOST];
        final int[] cell = new int[MOST];
        final int[] sold = new int[MOST];
        final int[] best = new int[MOST];
        private final int[] order = new int[MOST];
        private final int[] weight = new int[MOST];

        boolean has(int s) {
            return s >= 0 && s < count;
        }

        int added(int itsLikes, int itsPrice, int itsCell) {
            if (count >= MOST) {
                return FULL;
            }
            likes[count] = itsLikes;
            price[count] = itsPrice;
            cell[count] = itsCell;
            count++;
            return count - 1;
        }

        boolean sells(int s, int said, int loud) {
            return (at(likes, s) >> (said & 15) & 1) != 0 && at(cell, s) <= loud;
        }

        /** Each stall that may sells in deed: the pence. */
        int sellFor(int said, int loud) {
            int pence = 0;
            for (int s = 0; s < count && s < MOST; s++) {
                if (sells(s, said, loud)) {
                    sold[s]++;
                    pence += price[s];
                }
            }
            return pence;
        }

        void weigh(int s, int pence) {
            if (s >= 0 && s < MOST) {
                weight[s] = pence;
            }
        }

        /** By the weights, the pence of the order that brings most; it is kept. */
        int bestOrder(int loud) {
            for (int i = 0; i < MOST; i++) {
                order[i] = i;
            }
            int most = -1;
            boolean more = true;
            for (int i = 0; i < ORDERS && more; i++) {
                int pence = 0;
                for (int c = 0; c < count && c <= loud; c++) {
                    pence += at(weight, at(order, c));
                }
                if (pence > most) {
                    most = pence;
                    System.arraycopy(order, 0, best, 0, MOST);
                }
                more = hasNextOrder();
            }
            return most;
        }

        private boolean hasNextOrder() {
            int i = count - 2;
            while (i >= 0 && at(order, i) > at(order, i + 1)) {
                i--;
            }
            if (i < 0) {
                return false;
            }
            int j = count - 1;
            while (j > i && at(order, j) < at(order, i)) {
                j--;
            }
            swap(i, j);
            for (int a = i + 1; a < count + i - a; a++) {
                swap(a, count + i - a);
            }
            return true;
        }

        private void swap(int a, int b) {
            if (a >= 0 && a < MOST && b >= 0 && b < MOST) {
                int kept = order[a];
                order[a] = order[b];
                order[b] = kept;
            }
        }
    }

    /** The schools, and phrases with their verdicts as counts of things. */
    private static final class Schools {
        private static final int MOST = 5, PHRASES = 12, YES = 16, NO = 17, NEVER = 99;

        int count;
        final int[] reads = new int[MOST];
        private int phrases;
        private final int[] times = new int[PHRASES * THINGS];
        private final int[] size = new int[PHRASES];
        private final int[] due = new int[PHRASES];
        private final int[] yes = new int[PHRASES];
        private final int[] left = new int[PHRASES];
        private int useful;
        private int fewest;
        private int found;

        boolean has(int s) {
            return s >= 0 && s < count;
        }

        int added(int itsReads) {
            if (count >= MOST) {
                return FULL;
            }
            reads[count] = itsReads;
            count++;
            return count - 1;
        }

        /** A phrase alone becomes the first of the phrases. */
        void hear(Shelf phrase) {
            phrases = 0;
            clearPhrase(0);
            for (int i = 0; i < phrase.size && isThing(phrase.byteAt(i)); i++) {
                addThing(0, phrase.byteAt(i));
            }
        }

        void gather(Shelf verdicts) {
            phrases = 0;
            clearPhrase(0);
            for (int i = 0; i < verdicts.size && phrases < PHRASES; i++) {
                int b = verdicts.byteAt(i);
                if (isThing(b)) {
                    addThing(phrases, b);
                } else if (b == YES || b == NO) {
                    due[phrases] = b == YES ? 1 : 0;
                    phrases++;
                    clearPhrase(phrases);
                } else {
                    return;
                }
            }
        }

        private void clearPhrase(int p) {
            if (p < 0 || p >= PHRASES) {
                return;
            }
            size[p] = 0;
            for (int i = p * THINGS; i < (p + 1) * THINGS; i++) {
                times[i] = 0;
            }
        }

        private void addThing(int p, int thing) {
            if (p >= 0 && p < PHRASES && isThing(thing)) {
                times[p * THINGS + thing]++;
                size[p]++;
            }
        }

        /** What one who takes the told things as yes says of a phrase. */
        int saidBy(int set, int p) {
            int more = -at(size, p);
            for (int i = 0; i < THINGS; i++) {
                more += (set >> i & 1) * 2 * at(times, p * THINGS + i);
            }
            if (more == 0) {
                return NOT;
            }
            return more > 0 ? 1 : 0;
        }

        int against(int school) {
            int told = saidBy(at(reads, school), 0);
            int bits = 0;
            for (int s = 0; s < count && told != NOT; s++) {
                int other = saidBy(at(reads, s), 0);
                if (other != NOT && other != told) {
                    bits |= 1 << s;
                }
            }
            return bits;
        }

        int firstOtherwise(int set) {
            for (int p = 0; p < phrases; p++) {
                if (saidBy(set, p) != at(due, p)) {
                    return p;
                }
            }
            return NOT;
        }

        /** The set of fewest things by which all verdicts are so; below 0: none. */
        int fewestYes() {
            useful = 0;
            for (int p = 0; p < phrases && p < PHRASES; p++) {
                yes[p] = 0;
                for (int i = 0; i < THINGS && due[p] == 1; i++) {
                    useful |= at(times, p * THINGS + i) > 0 ? 1 << i : 0;
                }
            }
            for (int p = 0; p < phrases && p < PHRASES; p++) {
                left[p] = 0;
                for (int i = 0; i < THINGS; i++) {
                    left[p] += (useful >> i & 1) * at(times, p * THINGS + i);
                }
            }
            fewest = NEVER;
            found = -1;
            choose(this, THINGS - 1, 0);
            return found;
        }

        /** Leaves a thing out ahead of taking it, from 15 down: so sets come by their numbers. */
        private static void choose(Schools all, int thing, int set) {
            int taken = Integer.bitCount(set);
            if (taken >= all.fewest || !all.maySucceed()) {
                return;
            }
            if (thing < 0) {
                all.fewest = taken;
                all.found = set;
                return;
            }
            if ((all.useful >> thing & 1) == 0) {
                choose(all, thing - 1, set);
                return;
            }
            all.decide(thing, 0, 1);
            choose(all, thing - 1, set);
            all.decide(thing, 1, 0);
            choose(all, thing - 1, set | 1 << thing);
            all.decide(thing, -1, -1);
        }

        /** Of each phrase: so many times more of a thing as yes, and so many times fewer left. */
        private void decide(int thing, int more, int fewer) {
            for (int p = 0; p < phrases && p < PHRASES; p++) {
                int n = at(times, p * THINGS + thing);
                yes[p] += more * n;
                left[p] -= fewer * n;
            }
        }

        private boolean maySucceed() {
            for (int p = 0; p < phrases && p < PHRASES; p++) {
                boolean lost = due[p] == 1 ? 2 * (yes[p] + left[p]) <= size[p] : 2 * yes[p] >= size[p];
                if (lost) {
                    return false;
                }
            }
            return true;
        }
    }

    /** What was done in deed, and the image of it. */
    private static final class Ledger {
        int hours;
        int lumps;
        int remarks;
        int pence;
        int feedings;
        boolean imaged;
        private final int[] image = new int[9];

        void noteHour(boolean lump, int remark, int itsPence) {
            hours++;
            lumps += lump ? 1 : 0;
            remarks += remark != 0 ? 1 : 0;
            pence += itsPence;
        }

        void keepImage(Him him) {
            imaged = true;
            image[0] = him.mood;
            image[1] = him.hunger;
            image[2] = him.last;
            image[3] = him.hour;
            image[4] = hours;
            image[5] = lumps;
            image[6] = remarks;
            image[7] = pence;
            image[8] = feedings;
        }

        void layBack(Him him) {
            him.mood = image[0];
            him.hunger = image[1];
            him.last = image[2];
            him.hour = image[3];
            hours = image[4];
            lumps = image[5];
            remarks = image[6];
            pence = image[7];
            feedings = image[8];
        }
    }

    /** The changes, the first done ones of which may be undone, the others done again. */
    private static final class Changes {
        private static final int MOST = 40;

        int done;
        int kept;
        final int[] number = new int[MOST];
        final int[] what = new int[MOST];
        final int[] was = new int[MOST];
        final int[] becomes = new int[MOST];

        void note(int itsNumber, int itsWhat, int itWas, int itBecomes) {
            if (done >= MOST) {
                forgetFirst(number);
                forgetFirst(what);
                forgetFirst(was);
                forgetFirst(becomes);
                done = MOST - 1;
            }
            number[done] = itsNumber;
            what[done] = itsWhat;
            was[done] = itWas;
            becomes[done] = itBecomes;
            done++;
            kept = done;
        }

        private static void forgetFirst(int[] row) {
            for (int i = 1; i < row.length; i++) {
                row[i - 1] = row[i];
            }
        }

        /** Which change is to be undone; below 0: none. */
        int takenBack() {
            if (done == 0) {
                return -1;
            }
            done--;
            return done;
        }

        /** Which change is to be done again; below 0: none. */
        int takenAgain() {
            if (done == kept) {
                return -1;
            }
            done++;
            return done - 1;
        }
    }

    /** The bodies, and their acts by kind. */
    private static final class Acts {
        private static final int KINDS = 8, MOST = 50, TRACED = 24, DEEPEST = 40;
        private static final int SAYS = 0, FALLS = 1, SELLS = 2, TELLS = 3, WAYS = 4;
        private static final int[] ABOVE = {0, 0, 0, 2, 1, 3, 0, 6};

        /** By kind: the bodies of says, falls, sells, tells; 0: the kind has none. */
        private static final int[] BODIES = {
            1, 10, 11, 2,
            20, 0, 0, 0,
            0, 30, 0, 0,
            0, 41, 40, 0,
            0, 0, 0, 50,
            0, 0, 60, 61,
            70, 0, 0, 0,
            81, 80, 0, 0,
        };

        int count;
        int ran;
        final int[] kinds = new int[MOST];
        final int[] traced = new int[TRACED];

        boolean has(int n) {
            return n >= 0 && n < count;
        }

        int added(int kind) {
            if (count >= MOST) {
                return FULL;
            }
            kinds[count] = kind;
            count++;
            return count - 1;
        }

        boolean isUnder(int n, int k) {
            int kind = at(kinds, n);
            for (int i = 0; i < KINDS && kind != k; i++) {
                kind = at(ABOVE, kind);
            }
            return kind == k;
        }

        int done(int n, int act, int x) {
            ran = 0;
            if (!has(n) || act < 0 || act >= WAYS) {
                return 0;
            }
            return run(this, n, act, at(kinds, n), x, 0);
        }

        /** The act's body of a kind, or of the next above that has one. */
        private static int run(Acts all, int n, int act, int from, int x, int depth) {
            if (depth >= DEEPEST) {
                return 0;
            }
            int kind = from;
            for (int i = 0; i < KINDS && at(BODIES, kind * WAYS + act) == 0; i++) {
                kind = at(ABOVE, kind);
            }
            int number = at(BODIES, kind * WAYS + act);
            all.note(number);
            int own = at(all.kinds, n);
            int up = at(ABOVE, kind);
            int deeper = depth + 1;
            switch (number) {
                case 1:
                    return x + n;
                case 2:
                    return run(all, n, FALLS, own, x, deeper) - run(all, n, SELLS, own, 1, deeper);
                case 10:
                    return run(all, n, SAYS, own, x, deeper) * 2;
                case 11:
                    return x ^ n;
                case 20:
                    return run(all, n, SAYS, up, x, deeper) + 3;
                case 30:
                    return -run(all, n, FALLS, up, x, deeper);
                case 40:
                    return run(all, n, SELLS, up, x, deeper) * 3;
                case 41:
                    return run(all, n, FALLS, up, x + 1, deeper);
                case 50:
                    return run(all, n, TELLS, up, x, deeper) ^ 5;
                case 60:
                    return run(all, n, SELLS, up, x, deeper) - run(all, n, SAYS, own, 2, deeper);
                case 61:
                    return run(all, n, TELLS, up, x, deeper) + 1;
                case 70:
                    return run(all, n, SAYS, up, x, deeper) * 2;
                case 80:
                    return run(all, n, FALLS, up, x, deeper) + run(all, n, SELLS, own, 2, deeper);
                default:
                    return run(all, n, SAYS, up, x, deeper) - 1;
            }
        }

        private void note(int number) {
            if (ran >= 0 && ran < TRACED) {
                traced[ran] = number;
            }
            ran++;
        }
    }

    /** Plans remarks hour by hour. By then hunger and hour are the same whatever is said: mood and last alone differ. */
    private static final class Planner {
        private static final int SAY = 0, MOST = 1, QUIET = 2, MOODS = 256, NEVER = -1000;

        private final Him then = new Him();
        private final int[] chosen = new int[PLANNED];
        /** By hour, mood and last: the things by remarks, four bits each. */
        private final long[] said = new long[PLANNED * MOODS];
        /** By hour, mood and last: the most points from there on; NEVER: he can't be so. */
        private final int[] worth = new int[(PLANNED + 1) * MOODS];
        int hours;
        private int bits;
        private int aim;
        private int set;

        /** The most points of so many hours. To say a thing: by the fewest hours, none where 12 do not do. */
        int plan(int itsAim, int itsSet, int n, int itsBits, Him him, Law law) {
            aim = itsAim;
            set = itsSet;
            hours = Math.min(n, PLANNED);
            bits = itsBits == 0 ? 1 : itsBits;
            for (int i = 0; i < worth.length; i++) {
                worth[i] = NEVER;
            }
            int start = him.mood * THINGS + him.last;
            setWorth(start, 0);
            spread(him, law);
            weigh(him);
            walk(him, start);
            return worthAt(start);
        }

        int remarkAt(int k) {
            return k >= 0 && k < hours ? at(chosen, k) : NOT;
        }

        /** Finds how he may be, hour by hour; hours to say a thing end with the first in which he may. */
        private void spread(Him him, Law law) {
            then.becomes(him);
            for (int k = 0; k < hours; k++) {
                boolean says = false;
                for (int s = 0; s < MOODS; s++) {
                    if (worthAt(k * MOODS + s) != NEVER && saysFrom(k, s, law)) {
                        says = true;
                    }
                }
                if (aim == SAY && says) {
                    hours = k + 1;
                    return;
                }
                then.ageAnHour();
            }
            if (aim == SAY) {
                hours = 0;
            }
        }

        private boolean saysFrom(int k, int s, Law law) {
            boolean says = false;
            then.mood = s / THINGS;
            then.last = s % THINGS;
            for (int remark = 0; remark < REMARKS; remark++) {
                if ((bits >> remark & 1) == 0) {
                    continue;
                }
                int thing = law.saidBy(then, remark);
                keepSaid(k * MOODS + s, remark, thing);
                setWorth((k + 1) * MOODS + next(s, thing, remark), 0);
                says = says || (set >> thing & 1) != 0;
            }
            return says;
        }

        private void weigh(Him him) {
            for (int k = hours - 1; k >= 0; k--) {
                ageTo(him, k);
                for (int s = 0; s < MOODS; s++) {
                    int i = k * MOODS + s;
                    if (worthAt(i) == NEVER) {
                        continue;
                    }
                    int most = NEVER;
                    for (int remark = 0; remark < REMARKS; remark++) {
                        most = Math.max(most, worthBy(k, s, remark));
                    }
                    setWorth(i, most);
                }
            }
        }

        private void walk(Him him, int start) {
            int s = start;
            for (int k = 0; k < hours && k < chosen.length; k++) {
                ageTo(him, k);
                int remark = 0;
                while (remark < REMARKS - 1 && worthBy(k, s, remark) != worthAt(k * MOODS + s)) {
                    remark++;
                }
                chosen[k] = remark;
                s = next(s, saidAt(k * MOODS + s, remark), remark);
            }
        }

        private void ageTo(Him him, int k) {
            then.becomes(him);
            for (int i = 0; i < k; i++) {
                then.ageAnHour();
            }
        }

        /** The points of an hour with a remark and of the best behind it. */
        private int worthBy(int k, int s, int remark) {
            if ((bits >> remark & 1) == 0) {
                return NEVER;
            }
            int thing = saidAt(k * MOODS + s, remark);
            then.last = s % THINGS;
            return pointsOf(k, thing) + worthAt((k + 1) * MOODS + next(s, thing, remark));
        }

        private int pointsOf(int k, int thing) {
            if (aim == QUIET) {
                return then.isLump(thing) ? -1 : 0;
            }
            return aim == SAY && k < hours - 1 ? 0 : set >> thing & 1;
        }

        private static int next(int s, int thing, int remark) {
            return (s / THINGS + thing + remark) % THINGS * THINGS + thing;
        }

        private int worthAt(int i) {
            return i >= 0 && i < worth.length ? worth[i] : NEVER;
        }

        private void setWorth(int i, int v) {
            if (i >= 0 && i < worth.length) {
                worth[i] = v;
            }
        }

        private int saidAt(int i, int remark) {
            return i >= 0 && i < said.length ? (int) (said[i] >>> 4 * remark) & 15 : 0;
        }

        private void keepSaid(int i, int remark, int thing) {
            if (i >= 0 && i < said.length) {
                said[i] = said[i] & ~(15L << 4 * remark) | (long) thing << 4 * remark;
            }
        }
    }

    /** By which remarks he recites a phrase: what he said last is told by it, so mood alone differs. */
    private static final class Reciter {
        private final Him then = new Him();
        private final int[] phrase = new int[PLANNED];
        /** By hour and mood: the remarks (bits) by which he says what is due. */
        private final int[] fits = new int[PLANNED * THINGS];
        /** By hour and mood: how many ways there are from then on. */
        private final long[] ways = new long[(PLANNED + 1) * THINGS];
        private int hours;

        long waysOf(Shelf row, Him him, Law law) {
            hours = 0;
            while (hours < PLANNED && hours < row.size && isThing(row.byteAt(hours))) {
                phrase[hours] = row.byteAt(hours);
                hours++;
            }
            then.becomes(him);
            for (int k = 0; k < hours; k++) {
                for (int mood = 0; mood < THINGS; mood++) {
                    fit(k, mood, law);
                }
                then.last = at(phrase, k);
                then.ageAnHour();
            }
            for (int mood = 0; mood < THINGS; mood++) {
                setWays(hours, mood, 1);
            }
            for (int k = hours - 1; k >= 0; k--) {
                for (int mood = 0; mood < THINGS; mood++) {
                    setWays(k, mood, waysFrom(k, mood));
                }
            }
            return waysAt(0, him.mood);
        }

        private void fit(int k, int mood, Law law) {
            int found = 0;
            then.mood = mood;
            for (int remark = 0; remark < REMARKS; remark++) {
                found |= law.saidBy(then, remark) == at(phrase, k) ? 1 << remark : 0;
            }
            int i = k * THINGS + mood;
            if (i >= 0 && i < fits.length) {
                fits[i] = found;
            }
        }

        private long waysFrom(int k, int mood) {
            long sum = 0;
            for (int remark = 0; remark < REMARKS; remark++) {
                sum += waysBy(k, mood, remark);
            }
            return sum;
        }

        /** How many ways there are from an hour on with this remark in it. */
        private long waysBy(int k, int mood, int remark) {
            if ((at(fits, k * THINGS + mood) >> remark & 1) == 0) {
                return 0;
            }
            return waysAt(k + 1, moodBehind(k, mood, remark));
        }

        private int moodBehind(int k, int mood, int remark) {
            return (mood + at(phrase, k) + remark) % THINGS;
        }

        /** Only where there is a way. */
        int remarkAt(int wanted, int mood) {
            for (int k = 0; k < hours; k++) {
                int remark = 0;
                while (remark < REMARKS - 1 && waysBy(k, mood, remark) == 0) {
                    remark++;
                }
                if (k == wanted) {
                    return remark;
                }
                mood = moodBehind(k, mood, remark);
            }
            return NOT;
        }

        int sureOnes(int mood) {
            int sure = 0;
            int moods = 1 << mood;
            for (int k = 0; k < hours; k++) {
                int remarks = 0;
                int behind = 0;
                for (int i = 0; i < THINGS * REMARKS; i++) {
                    int from = i / REMARKS;
                    int remark = i % REMARKS;
                    if ((moods >> from & 1) != 0 && waysBy(k, from, remark) > 0) {
                        remarks |= 1 << remark;
                        behind |= 1 << moodBehind(k, from, remark);
                    }
                }
                sure += Integer.bitCount(remarks) == 1 ? 1 : 0;
                moods = behind;
            }
            return sure;
        }

        private long waysAt(int k, int mood) {
            int i = k * THINGS + mood;
            return i >= 0 && i < ways.length ? ways[i] : 0;
        }

        private void setWays(int k, int mood, long v) {
            int i = k * THINGS + mood;
            if (i >= 0 && i < ways.length) {
                ways[i] = v;
            }
        }
    }

    /** A shelf with nothing, a body, or a row of one sort. */
    private static final class Shelf {
        private static final int NOTHING = 0, BODY = 1, ROW = 2, MOST = 60;
        private static final int BYTES = 0, SHORTS = 1, INTS = 2, BOOLEANS = 4;

        int holds;
        int body;
        int sort;
        int size;
        final long[] items = new long[MOST];

        void holdRow(int itsSort, int n) {
            holds = ROW;
            sort = itsSort;
            size = Math.min(n, MOST);
            for (int i = 0; i < items.length; i++) {
                items[i] = 0;
            }
        }

        boolean isRowOf(int itsSort) {
            return holds == ROW && sort == itsSort;
        }

        /** Why it is not the row that was wanted. */
        int refusal() {
            return holds == NOTHING ? NOTHING_THERE : OTHER_KIND;
        }

        /** Whether so many elements are there from a place on. */
        boolean hasStretch(int i, int n) {
            return i >= 0 && i <= size && n <= size - i;
        }

        boolean hasPut(int i, long v) {
            if (i < 0 || i >= size || i >= items.length) {
                return false;
            }
            items[i] = cut(v);
            return true;
        }

        private long cut(long v) {
            switch (sort) {
                case BYTES:
                    return (byte) v;
                case SHORTS:
                    return (short) v;
                case INTS:
                    return (int) v;
                case BOOLEANS:
                    return v != 0 ? 1 : 0;
                default:
                    return v;
            }
        }

        long itemAt(int i) {
            return i >= 0 && i < size && i < items.length ? items[i] : 0;
        }

        /** Below 0 where the row has ended. */
        int byteAt(int i) {
            return i >= 0 && i < size ? (int) itemAt(i) : -1;
        }

        int remarkOf(int i) {
            int b = byteAt(i);
            return isRemark(b) ? b : 0;
        }
    }
}
