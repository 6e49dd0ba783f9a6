/** A rail of things locked to one another: who can go, when, and what to do about it. Says no more than DOC.md. */
public final class LockedToAnothers {
    public static final int NONE = -1, BAD = -2, STATE = -3, FULL = -4;
    public static final long NO = -4611686018427387904L;

    private static final int NO_SUCH = -5, NOT_AS_TOLD = -7;
    private static final int MISSING = -11, OUTSIDE = -12, UNLIKE = -13, BELOW = -14;
    private static final int SHEETS = 4, SORTS = 3, INTS = 2, POST = 8, LOCK_KIND = 6;
    private static final int MOST_MORE = 9, MOST_SEED = 99999, MOST_SEEDS = 40, MOST_BY_SHEET = 10;
    private static final int MOST_BYTE = 255, MOST_FED = 5, FAULTY = -100;

    private final Rail rail = new Rail();
    private final Rail kept = new Rail();
    private final LawBook book = new LawBook(rail);
    private final Orders orders = new Orders(rail);
    private final Day today = new Day(rail);
    private final Sheet[] sheets = new Sheet[SHEETS];
    private final int[] coming = new int[Rail.MOST_THINGS];
    private final int[] prices = new int[Rail.MOST_LOCKS];
    private boolean imaged = false;
    private int keptLaw = 0;

    public LockedToAnothers() {
        for (int s = 0; s < SHEETS; s++) {
            sheets[s] = new Sheet();
        }
    }

    // ---- the law

    public int count(int what) {
        switch (what) {
            case 0: return rail.things;
            case 1: return rail.locks;
            case 2: return rail.gone;
            case 3: return rail.sawn;
            case 4: return book.texts;
            case 5: return book.inForce;
            case 6: return book.tape.size;
            default: return BAD;
        }
    }

    public int feed(int n, int a, int b, int c, int d, int e) {
        if (n < 1 || n > MOST_FED || !isByte(a) || !isByte(b) || !isByte(c) || !isByte(d) || !isByte(e)) {
            return BAD;
        }
        if (book.tape.size + n > Reader.MOST_BYTES) {
            return FULL;
        }
        for (int i = 0; i < n; i++) {
            book.tape.append(i == 0 ? a : i == 1 ? b : i == 2 ? c : i == 3 ? d : e);
        }
        return book.tape.size;
    }

    public int text() {
        if (book.texts >= LawBook.MOST_TEXTS) {
            return FULL;
        }
        return book.takeTape() ? book.texts - 1 : FAULTY - book.tape.place;
    }

    public int force(int t) {
        if (t < 0 || t >= book.texts) {
            return BAD;
        }
        int was = book.inForce;
        book.inForce = t;
        return was;
    }

    public int asks(int part, int t, int lock, int hour) {
        if (part < LawBook.TAKES || part > LawBook.MINDS || !rail.isThing(t) || !isHour(hour)) {
            return BAD;
        }
        if (lock != LawBook.NO_LOCK && !rail.isLock(lock)) {
            return BAD;
        }
        return book.says(book.inForce, part, t, lock, hour);
    }

    // ---- things, locks

    public int thing(int kind, int more, int hour) {
        if (!isKind(kind) || more < 0 || more > MOST_MORE || !isHour(hour)) {
            return BAD;
        }
        if (rail.things >= Rail.MOST_THINGS) {
            return FULL;
        }
        rail.addThing(kind, more, hour);
        return rail.things - 1;
    }

    public int come(int t, int hour) {
        if (!rail.isThing(t)) {
            return NO_SUCH;
        }
        if (!isHour(hour)) {
            return NOT_AS_TOLD;
        }
        int was = rail.hours[t];
        rail.hours[t] = hour;
        return was;
    }

    public int told(int t, int what) {
        if (!rail.isThing(t)) {
            return NO_SUCH;
        }
        switch (what) {
            case 0: return rail.kindOf[t];
            case 1: return rail.mores[t];
            case 2: return rail.hours[t];
            case 3: return rail.isGone(t) ? 1 : 0;
            default: return NOT_AS_TOLD;
        }
    }

    public int lock(int owner, int sort, int set) {
        if (!rail.isThing(owner) || !isSort(sort) || !rail.isThrough(set)) {
            return BAD;
        }
        if (((1 << owner | set) & rail.gone) != 0) {
            return STATE;
        }
        if (rail.locks >= Rail.MOST_LOCKS) {
            return FULL;
        }
        rail.addLock(owner, sort, set);
        return rail.locks - 1;
    }

    public int relock(int l, int what, int v) {
        if (!rail.isLock(l)) {
            return NO_SUCH;
        }
        int was;
        if (what == 0 && rail.isThing(v)) {
            was = rail.owners[l];
            rail.owners[l] = v;
        } else if (what == 1 && isSort(v)) {
            was = rail.sorts[l];
            rail.putSort(l, v);
        } else if (what == 2 && rail.isThrough(v)) {
            was = rail.sets[l];
            rail.putSet(l, v);
        } else {
            was = NOT_AS_TOLD;
        }
        return was;
    }

    public int lockTold(int l, int what) {
        if (!rail.isLock(l)) {
            return NO_SUCH;
        }
        switch (what) {
            case 0: return rail.owners[l];
            case 1: return rail.sorts[l];
            case 2: return rail.sets[l];
            case 3: return rail.sawn >> l & 1;
            case 4: return rail.isShut(l) ? 1 : 0;
            default: return NOT_AS_TOLD;
        }
    }

    // ---- who can go

    public int holds(int t) {
        return rail.isThing(t) ? rail.holders(t) : NO_SUCH;
    }

    public int free() {
        return rail.canGo(rail.gone, rail.sawn);
    }

    public int go(int t) {
        if (!rail.isThing(t)) {
            return NO_SUCH;
        }
        if (!has(rail.canGo(rail.gone, rail.sawn), t)) {
            return STATE;
        }
        rail.gone |= 1 << t;
        return rail.things - Integer.bitCount(rail.gone);
    }

    public int saw(int l) {
        if (!rail.isLock(l)) {
            return NO_SUCH;
        }
        if (!rail.isShut(l)) {
            return STATE;
        }
        rail.sawn |= 1 << l;
        return book.sawing(book.inForce, l);
    }

    public int waits(int t) {
        return rail.isThing(t) ? rail.awaited(t) : NO_SUCH;
    }

    public int never() {
        return rail.allThings() & ~rail.goneAtLast(rail.sawn);
    }

    public int first(int t, int what) {
        if (!rail.isThing(t)) {
            return NO_SUCH;
        }
        if (!isEither(what)) {
            return NOT_AS_TOLD;
        }
        if (rail.isGone(t)) {
            return STATE;
        }
        return what == 0 ? orders.goneAhead(t) : orders.fewestAhead(t);
    }

    public int ring(int t, int what) {
        if (!rail.isThing(t)) {
            return NO_SUCH;
        }
        if (!isEither(what)) {
            return NOT_AS_TOLD;
        }
        int found = orders.smallestRing(t);
        if (found == 0) {
            return -1;
        }
        return what == 0 ? Integer.bitCount(found) : found;
    }

    // ---- orders

    public long rows(int set) {
        if ((set & ~rail.allThings()) != 0) {
            return NO;
        }
        return orders.leadingTo(set);
    }

    public long ways() {
        return orders.leadingTo(rail.goneAtLast(rail.sawn));
    }

    public int row() {
        int digits = 0;
        int gone = rail.gone;
        for (int step = 0; step < rail.things; step++) {
            int can = rail.canGo(gone, rail.sawn) & rail.ever;
            if (can == 0) {
                break;
            }
            int least = leastOf(can);
            digits = digits * 10 + least + 1;
            gone |= 1 << least;
        }
        return digits;
    }

    // ---- hours

    public int hour(int t) {
        if (!rail.isThing(t)) {
            return NO_SUCH;
        }
        if (rail.isGone(t)) {
            return STATE;
        }
        today.run(rail.hours);
        return today.goesAt[t];
    }

    public int day(int what) {
        if (what < 0 || what > 2) {
            return BAD;
        }
        if (what == 0) {
            return badness();
        }
        today.run(rail.hours);
        int late = 0;
        for (int t = 0; t < rail.things; t++) {
            int at = today.goesAt[t];
            if (!rail.isGone(t) && (what == 1 ? at != rail.hours[t] : at < 0)) {
                late |= 1 << t;
            }
        }
        return late;
    }

    public int pass(int hour) {
        if (hour < 0 || hour > Day.HOURS) {
            return BAD;
        }
        today.run(rail.hours);
        int went = 0;
        for (int t = 0; t < rail.things; t++) {
            if (today.goesAt[t] >= 0 && today.goesAt[t] < hour) {
                rail.gone |= 1 << t;
                went++;
            }
        }
        return went;
    }

    // ---- saws, notes

    public int sawFor(int t, int what) {
        if (!rail.isThing(t)) {
            return NO_SUCH;
        }
        return isEither(what) ? cheapestSaws(1 << t, what) : NOT_AS_TOLD;
    }

    public int sawAll(int what) {
        return isEither(what) ? cheapestSaws(rail.ever, what) : BAD;
    }

    public int keys(int t) {
        if (!rail.isThing(t)) {
            return NO_SUCH;
        }
        int found = 0;
        if (has(rail.goneAtLast(rail.sawn), t)) {
            return found;
        }
        for (int l = 0; l < rail.locks; l++) {
            if (rail.isShut(l) && has(rail.goneAtLast(rail.sawn | 1 << l), t)) {
                found |= 1 << l;
            }
        }
        return found;
    }

    public int note(int t, int what) {
        if (!rail.isThing(t)) {
            return NO_SUCH;
        }
        if (!isEither(what)) {
            return NOT_AS_TOLD;
        }
        if (rail.isGone(t)) {
            return STATE;
        }
        today.run(rail.hours);
        int earliest = today.goesAt[t];
        int who = -1;
        for (int u = 0; u < rail.things; u++) {
            System.arraycopy(rail.hours, 0, coming, 0, rail.things);
            coming[u] = 0;
            today.run(coming);
            int then = today.goesAt[t];
            if (then >= 0 && (earliest < 0 || then < earliest)) {
                earliest = then;
                who = u;
            }
        }
        return what == 0 ? who : earliest;
    }

    public int out(int t) {
        if (!rail.isThing(t)) {
            return NO_SUCH;
        }
        int holders = rail.holders(t);
        int minutes = 0;
        for (int l = 0; l < rail.locks; l++) {
            if (has(holders, l)) {
                int off = book.prising(t, l);
                if (off == 0) {
                    return -1;
                }
                minutes += off;
            }
        }
        return minutes;
    }

    // ---- a thief

    public int steals() {
        int loose = 0;
        for (int t = 0; t < rail.things; t++) {
            if (!rail.isGone(t) && rail.fixers(t) == 0) {
                loose |= 1 << t;
            }
        }
        return loose;
    }

    public int theft(int t) {
        if (!rail.isThing(t)) {
            return NO_SUCH;
        }
        return rail.isGone(t) ? STATE : toSteal(t);
    }

    public int loot(int what) {
        if (!isEither(what)) {
            return BAD;
        }
        int best = -1;
        int least = -1;
        for (int t = 0; t < rail.things; t++) {
            if (!rail.isGone(t)) {
                int price = toSteal(t);
                if (best < 0 || price < least) {
                    best = t;
                    least = price;
                }
            }
        }
        return what == 0 ? best : least;
    }

    public int guard(int t, int sort, int what) {
        if (!rail.isThing(t)) {
            return NO_SUCH;
        }
        if (!isSort(sort) || !isEither(what)) {
            return NOT_AS_TOLD;
        }
        if (rail.isGone(t)) {
            return STATE;
        }
        if (rail.locks >= Rail.MOST_LOCKS) {
            return FULL;
        }
        int best = -1;
        int least = -1;
        for (int other = 0; other <= POST; other++) {
            if (other == t || other < POST && !rail.isThere(other)) {
                continue;
            }
            rail.addLock(t, sort, 1 << t | 1 << other);
            int bad = badness();
            rail.dropLastLock();
            if (best < 0 || bad < least) {
                best = other;
                least = bad;
            }
        }
        return what == 0 ? best : least;
    }

    // ---- told goings, hours

    public int judge(int s) {
        int refusal = refusalOf(s);
        return refusal != 0 ? refusal : firstWrong(sheets[s]);
    }

    public int whose(int s, int l, int sort) {
        int refusal = refusalOf(s);
        if (refusal != 0) {
            return refusal;
        }
        if (!rail.isLock(l)) {
            return NO_SUCH;
        }
        if (!isEither(sort)) {
            return NOT_AS_TOLD;
        }
        return sort == 0 ? ownersBy(sheets[s], l) : sortsBy(sheets[s], l);
    }

    public int kinds(int s, int t) {
        int refusal = refusalOf(s);
        if (refusal != 0) {
            return refusal;
        }
        if (!rail.isThing(t)) {
            return NO_SUCH;
        }
        int was = rail.kindOf[t];
        int found = 0;
        for (int kind = 0; kind < Kinds.COUNT; kind++) {
            rail.putKind(t, kind);
            if (firstWrong(sheets[s]) < 0) {
                found |= 1 << kind;
            }
        }
        rail.putKind(t, was);
        return found;
    }

    public int laws(int s) {
        int refusal = refusalOf(s);
        if (refusal != 0) {
            return refusal;
        }
        if (sheets[s].size != rail.locks) {
            return BAD;
        }
        int found = 0;
        for (int text = 0; text < book.texts; text++) {
            if (sawsAreSo(sheets[s], text)) {
                found |= 1 << text;
            }
        }
        return found;
    }

    public int film(int s) {
        if (!isSheet(s)) {
            return BAD;
        }
        today.run(rail.hours);
        sheets[s].become(INTS, rail.things);
        for (int t = 0; t < rail.things; t++) {
            sheets[s].put(t, today.goesAt[t]);
        }
        return rail.things;
    }

    public int seen(int s) {
        int refusal = refusalOf(s);
        if (refusal != 0) {
            return refusal;
        }
        if (sheets[s].size != rail.things) {
            return BAD;
        }
        today.run(rail.hours);
        for (int t = 0; t < rail.things; t++) {
            if (sheets[s].numbers[t] != today.goesAt[t]) {
                return t;
            }
        }
        return -1;
    }

    // ---- days by lot

    public int drawn(int seed, int t) {
        if (!rail.isThing(t)) {
            return NO_SUCH;
        }
        if (seed < 0 || seed > MOST_SEED) {
            return NOT_AS_TOLD;
        }
        if (rail.isGone(t)) {
            return STATE;
        }
        today.draw(seed, coming);
        today.run(coming);
        return today.goesAt[t];
    }

    public long odds(int seed, int seeds, int thingHour, int part) {
        if (seed < 0 || seed > MOST_SEED || seeds < 1 || seeds > MOST_SEEDS || !isEither(part)) {
            return NO;
        }
        int t = thingHour / 100;
        int by = thingHour % 100;
        if (thingHour < 0 || !rail.isThing(t) || !isHour(by)) {
            return NO;
        }
        int hits = 0;
        for (int i = 0; i < seeds; i++) {
            today.draw(seed + i, coming);
            today.run(coming);
            if (today.goesAt[t] >= 0 && today.goesAt[t] <= by) {
                hits++;
            }
        }
        int shared = commonDivisor(seeds, hits);
        return part == 0 ? hits / shared : seeds / shared;
    }

    public int image() {
        kept.becomeLike(rail);
        keptLaw = book.inForce;
        imaged = true;
        return rail.things;
    }

    public int back() {
        if (!imaged) {
            return STATE;
        }
        rail.becomeLike(kept);
        book.inForce = keptLaw;
        return rail.things;
    }

    // ---- the host

    public int sheet(int s, int sort, int n) {
        if (!isSheet(s) || sort != Sheet.MISSING_SORT && !isSort(sort)) {
            return BAD;
        }
        if (sort == Sheet.MISSING_SORT) {
            sheets[s].become(sort, 0);
            return 1;
        }
        if (n > Sheet.MOST) {
            return BAD;
        }
        if (n < 0) {
            return BELOW;
        }
        sheets[s].become(sort, n);
        return 1;
    }

    public int cell(int s, int i, int v) {
        int refusal = refusalOf(s);
        if (refusal != 0) {
            return refusal;
        }
        if (!sheets[s].isPlace(i)) {
            return OUTSIDE;
        }
        sheets[s].put(i, v);
        return 1;
    }

    public int copy(int s, int i, int other, int j, int n) {
        if (!isSheet(s) || !isSheet(other)) {
            return BAD;
        }
        Sheet from = sheets[s];
        Sheet to = sheets[other];
        if (from.isMissing() || to.isMissing()) {
            return MISSING;
        }
        if (from.sort != to.sort) {
            return UNLIKE;
        }
        if (!from.isStretch(i, n) || !to.isStretch(j, n)) {
            return OUTSIDE;
        }
        System.arraycopy(from.numbers, i, to.numbers, j, n);
        return n;
    }

    public int locksBy(int s, int sort, int at, int n) {
        if (!isSheet(s) || !isSort(sort) || n < 0 || n > MOST_BY_SHEET) {
            return BAD;
        }
        Sheet told = sheets[s];
        if (told.isMissing()) {
            return MISSING;
        }
        if (told.sort != sort) {
            return UNLIKE;
        }
        int came = 0;
        for (int i = 0; i < n; i++) {
            int place = at + 3 * i;
            if (!told.isStretch(place, 3)) {
                return OUTSIDE;
            }
            if (lock(told.numbers[place], told.numbers[place + 1], told.numbers[place + 2]) >= 0) {
                came++;
            }
        }
        return came;
    }

    public int taken(int i, int kind) {
        if (!isKind(kind) && kind != LOCK_KIND) {
            return BAD;
        }
        if (i < 0 || i >= Rail.MOST_LOCKS + Rail.MOST_THINGS) {
            return OUTSIDE;
        }
        if (i < Rail.MOST_LOCKS) {
            if (!rail.isLock(i) || !rail.isShut(i)) {
                return MISSING;
            }
            return kind == LOCK_KIND ? rail.sets[i] : UNLIKE;
        }
        int t = i - Rail.MOST_LOCKS;
        if (!rail.isThere(t)) {
            return MISSING;
        }
        return Kinds.isOne(rail.kindOf[t], kind) ? t : UNLIKE;
    }

    // ---- what several of these share

    private static boolean has(int bits, int i) {
        return (bits >> i & 1) != 0;
    }

    /** The lowest of some bits; 0, if there is none. */
    private static int leastOf(int bits) {
        for (int i = 0; i < Rail.MOST_THINGS; i++) {
            if (has(bits, i)) {
                return i;
            }
        }
        return 0;
    }

    private static boolean isByte(int b) {
        return b >= 0 && b <= MOST_BYTE;
    }

    private static boolean isEither(int what) {
        return what == 0 || what == 1;
    }

    private static boolean isHour(int hour) {
        return hour >= 0 && hour < Day.HOURS;
    }

    private static boolean isKind(int kind) {
        return kind >= 0 && kind < Kinds.COUNT;
    }

    private static boolean isSort(int sort) {
        return sort >= 0 && sort < SORTS;
    }

    private static boolean isSheet(int s) {
        return s >= 0 && s < SHEETS;
    }

    /** BAD or MISSING, or 0 if there is such a sheet. */
    private int refusalOf(int s) {
        if (!isSheet(s)) {
            return BAD;
        }
        return sheets[s].isMissing() ? MISSING : 0;
    }

    /** BADNESS of all that aren't gone now. */
    private int badness() {
        today.run(rail.hours);
        int bad = 0;
        for (int t = 0; t < rail.things; t++) {
            if (rail.isGone(t)) {
                continue;
            }
            int end = today.goesAt[t] < 0 ? Day.HOURS : today.goesAt[t];
            for (int h = rail.hours[t]; h < end; h++) {
                bad += book.minding(t, h);
            }
        }
        return bad;
    }

    /** The cheapest set of locks by which all wanted would be gone at last (what 0), its price (1); -1: none. */
    private int cheapestSaws(int wanted, int what) {
        int shut = 0;
        for (int l = 0; l < rail.locks; l++) {
            prices[l] = book.sawing(book.inForce, l);
            shut |= rail.isShut(l) ? 1 << l : 0;
        }
        int best = -1;
        int least = -1;
        for (int set = 0; set <= shut; set++) {
            if ((set & ~shut) != 0) {
                continue;
            }
            int price = priceOf(set);
            if ((best < 0 || price < least) && (wanted & ~rail.goneAtLast(rail.sawn | set)) == 0) {
                best = set;
                least = price;
            }
        }
        return what == 0 ? best : least;
    }

    private int priceOf(int set) {
        int price = 0;
        for (int l = 0; l < rail.locks; l++) {
            price += has(set, l) ? prices[l] : 0;
        }
        return price;
    }

    private int toSteal(int t) {
        int fixers = rail.fixers(t);
        int price = 0;
        for (int l = 0; l < rail.locks; l++) {
            if (has(fixers, l)) {
                int sawing = book.says(book.inForce, LawBook.SAWS, t, l, 0);
                int off = book.prising(t, l);
                price += off == 0 ? sawing : Math.min(sawing, off);
            }
        }
        return price;
    }

    /** The first place at which a sheet tells nobody who could go then; -1: none. */
    private int firstWrong(Sheet told) {
        int gone = rail.gone;
        for (int i = 0; i < told.size; i++) {
            int t = told.numbers[i];
            if (!rail.isThing(t) || !has(rail.canGo(gone, rail.sawn), t)) {
                return i;
            }
            gone |= 1 << t;
        }
        return -1;
    }

    private int ownersBy(Sheet told, int l) {
        int was = rail.owners[l];
        int found = 0;
        for (int t = 0; t < rail.things; t++) {
            rail.owners[l] = t;
            if (firstWrong(told) < 0) {
                found |= 1 << t;
            }
        }
        rail.owners[l] = was;
        return found;
    }

    private int sortsBy(Sheet told, int l) {
        int was = rail.sorts[l];
        int found = 0;
        for (int sort = 0; sort < SORTS; sort++) {
            rail.putSort(l, sort);
            if (firstWrong(told) < 0) {
                found |= 1 << sort;
            }
        }
        rail.putSort(l, was);
        return found;
    }

    private boolean sawsAreSo(Sheet told, int text) {
        for (int l = 0; l < rail.locks; l++) {
            if (told.numbers[l] != book.sawing(text, l)) {
                return false;
            }
        }
        return true;
    }

    /** Of two numbers, the first above 0, the other not below: never below 1. */
    private static int commonDivisor(int a, int b) {
        for (int d = a; d > 1; d--) {
            if (a % d == 0 && b % d == 0) {
                return d;
            }
        }
        return 1;
    }

    /** What each kind of thing does otherwise than the kind above it. */
    private static final class Kinds {
        static final int COUNT = 6;
        private static final int TANDEM = 1, SCOOTER = 2, QUAD = 3, TOY = 4, WRECK = 5;
        private static final int QUADS_FROM = 6;
        private static final int[] ABOVE = {-1, 0, 0, 1, 2, 0};

        static boolean isHeld(int kind, int more, int sort) {
            switch (kind) {
                case SCOOTER: return sort != 0;
                case TOY: return sort != 0 && 3 * sort > more;
                default: return true;
            }
        }

        static int offBy(int kind, int more, int says) {
            switch (kind) {
                case TANDEM: return 2 * says;
                case QUAD: return says == 0 ? 0 : 2 * says + more;
                case TOY: return 1;
                default: return says;
            }
        }

        static boolean goesIn(int kind, int more, int hour) {
            switch (kind) {
                case QUAD: return hour >= QUADS_FROM && hour <= QUADS_FROM + 2 * more;
                case WRECK: return false;
                default: return true;
            }
        }

        static boolean everGoes(int kind, int more) {
            for (int h = 0; h < Day.HOURS; h++) {
                if (goesIn(kind, more, h)) {
                    return true;
                }
            }
            return false;
        }

        static boolean isOne(int kind, int of) {
            int above = kind;
            for (int step = 0; step < COUNT && above >= 0 && above < COUNT; step++) {
                if (above == of) {
                    return true;
                }
                above = ABOVE[above];
            }
            return false;
        }
    }

    /** The things, the locks, and which lock keeps which thing. */
    private static final class Rail {
        static final int MOST_THINGS = 8, MOST_LOCKS = 10;
        private static final int POST_BIT = 256;

        int things = 0, gone = 0, locks = 0, sawn = 0;
        // Who EVER GO.
        int ever = 0;
        final int[] kindOf = new int[MOST_THINGS];
        final int[] mores = new int[MOST_THINGS];
        final int[] hours = new int[MOST_THINGS];
        final int[] owners = new int[MOST_LOCKS];
        final int[] sorts = new int[MOST_LOCKS];
        final int[] sets = new int[MOST_LOCKS];
        // Of each lock the things it goes through and is of a sort for; kept, as saws ask for it a thousand times.
        private final int[] grips = new int[MOST_LOCKS];

        boolean isThing(int t) {
            return t >= 0 && t < things;
        }

        boolean isLock(int l) {
            return l >= 0 && l < locks;
        }

        boolean isGone(int t) {
            return has(gone, t);
        }

        boolean isThere(int t) {
            return isThing(t) && !isGone(t);
        }

        boolean isShut(int l) {
            return !has(sawn, l) && !has(gone, owners[l]);
        }

        boolean isThrough(int set) {
            return set != 0 && (set & ~(allThings() | POST_BIT)) == 0;
        }

        int allThings() {
            return (1 << things) - 1;
        }

        void addThing(int kind, int more, int hour) {
            int t = things;
            things++;
            mores[t] = more;
            hours[t] = hour;
            putKind(t, kind);
        }

        void putKind(int t, int kind) {
            kindOf[t] = kind;
            ever = Kinds.everGoes(kind, mores[t]) ? ever | 1 << t : ever & ~(1 << t);
            for (int l = 0; l < locks; l++) {
                regrip(l);
            }
        }

        void addLock(int owner, int sort, int set) {
            int l = locks;
            locks++;
            owners[l] = owner;
            sorts[l] = sort;
            putSet(l, set);
        }

        void dropLastLock() {
            locks--;
        }

        void putSort(int l, int sort) {
            sorts[l] = sort;
            regrip(l);
        }

        void putSet(int l, int set) {
            sets[l] = set;
            regrip(l);
        }

        private void regrip(int l) {
            int grip = 0;
            for (int t = 0; t < things; t++) {
                if (has(sets[l], t) && Kinds.isHeld(kindOf[t], mores[t], sorts[l])) {
                    grip |= 1 << t;
                }
            }
            grips[l] = grip;
        }

        boolean isFixing(int l, int t) {
            boolean toAnother = (sets[l] & ~gone & ~(1 << t)) != 0;
            return isShut(l) && has(grips[l], t) && toAnother;
        }

        /** The locks that FIX a thing. */
        int fixers(int t) {
            int found = 0;
            for (int l = 0; l < locks; l++) {
                found |= isFixing(l, t) ? 1 << l : 0;
            }
            return found;
        }

        /** The locks that HOLD a thing. */
        int holders(int t) {
            int found = 0;
            for (int l = 0; l < locks; l++) {
                found |= owners[l] != t && isFixing(l, t) ? 1 << l : 0;
            }
            return found;
        }

        /** The owners of the locks that HOLD a thing. */
        int awaited(int t) {
            int holders = holders(t);
            int found = 0;
            for (int l = 0; l < locks; l++) {
                found |= has(holders, l) ? 1 << owners[l] : 0;
            }
            return found;
        }

        /** Who CAN GO, were these the gone things and the sawn locks. */
        int canGo(int goneThen, int sawnThen) {
            int held = 0;
            for (int l = 0; l < locks; l++) {
                if (has(sawnThen, l) || has(goneThen, owners[l])) {
                    continue;
                }
                int there = sets[l] & ~goneThen;
                boolean severalThere = (there & (there - 1)) != 0;
                if (severalThere) {
                    held |= grips[l] & ~(1 << owners[l]);
                }
            }
            return allThings() & ~goneThen & ~held;
        }

        /** Who are gone AT LAST, were these the sawn locks. */
        int goneAtLast(int sawnThen) {
            int goneThen = gone;
            for (int step = 0; step < MOST_THINGS; step++) {
                int going = canGo(goneThen, sawnThen) & ever;
                if (going == 0) {
                    break;
                }
                goneThen |= going;
            }
            return goneThen;
        }

        void becomeLike(Rail other) {
            things = other.things;
            gone = other.gone;
            locks = other.locks;
            sawn = other.sawn;
            ever = other.ever;
            System.arraycopy(other.kindOf, 0, kindOf, 0, MOST_THINGS);
            System.arraycopy(other.mores, 0, mores, 0, MOST_THINGS);
            System.arraycopy(other.hours, 0, hours, 0, MOST_THINGS);
            System.arraycopy(other.owners, 0, owners, 0, MOST_LOCKS);
            System.arraycopy(other.sorts, 0, sorts, 0, MOST_LOCKS);
            System.arraycopy(other.sets, 0, sets, 0, MOST_LOCKS);
            System.arraycopy(other.grips, 0, grips, 0, MOST_LOCKS);
        }
    }

    /** In which orders those who EVER GO can go, and who wait for one another in a ring. */
    private static final class Orders {
        private static final int SETS = 256;

        private final Rail rail;
        // Of each set of gone things in how many orders it is come to.
        private final int[] counts = new int[SETS];
        // Of each set of things who can stand last in a row of just these, each waiting for the next.
        private final int[] lasts = new int[SETS];
        private final int[] awaits = new int[Rail.MOST_THINGS];

        Orders(Rail rail) {
            this.rail = rail;
        }

        int leadingTo(int set) {
            countAll();
            return counts[set];
        }

        private void countAll() {
            for (int set = 0; set < SETS; set++) {
                counts[set] = 0;
            }
            counts[rail.gone] = 1;
            // A set comes behind all of its parts, as it is the higher number.
            for (int set = rail.gone; set <= rail.allThings(); set++) {
                if (counts[set] == 0) {
                    continue;
                }
                int can = rail.canGo(set, rail.sawn) & rail.ever;
                for (int t = 0; t < rail.things; t++) {
                    if (has(can, t)) {
                        counts[set | 1 << t] += counts[set];
                    }
                }
            }
        }

        /** Whom each order has seen go, besides those gone now, when a thing comes to be able to; -1: none does. */
        int goneAhead(int t) {
            countAll();
            int common = -1;
            for (int set = 0; set <= rail.allThings(); set++) {
                if (counts[set] > 0 && has(rail.canGo(set, rail.sawn), t)) {
                    common &= set;
                }
            }
            return common < 0 ? -1 : common & ~rail.gone;
        }

        int fewestAhead(int t) {
            countAll();
            int fewest = -1;
            for (int set = 0; set <= rail.allThings(); set++) {
                if (counts[set] > 0 && has(rail.canGo(set, rail.sawn), t)) {
                    int ahead = Integer.bitCount(set & ~rail.gone);
                    fewest = fewest < 0 ? ahead : Math.min(fewest, ahead);
                }
            }
            return fewest;
        }

        /** The ring with a thing in it of fewest, of like ones the least; 0: none. */
        int smallestRing(int t) {
            int best = 0;
            if (rail.isGone(t)) {
                return best;
            }
            for (int u = 0; u < rail.things; u++) {
                awaits[u] = rail.isGone(u) ? 0 : rail.awaited(u);
            }
            for (int set = 0; set < SETS; set++) {
                lasts[set] = 0;
            }
            lasts[1 << t] = 1 << t;
            for (int set = 1 << t; set <= rail.allThings(); set++) {
                boolean closes = lasts[set] != 0 && lengthenRows(set, t);
                if (closes && (best == 0 || Integer.bitCount(set) < Integer.bitCount(best))) {
                    best = set;
                }
            }
            return best;
        }

        /** Puts each who is awaited behind the rows of a set; whether one of these waits for the thing ahead. */
        private boolean lengthenRows(int set, int ahead) {
            int awaited = 0;
            for (int u = 0; u < rail.things; u++) {
                awaited |= has(lasts[set], u) ? awaits[u] : 0;
            }
            for (int u = 0; u < rail.things; u++) {
                if (has(awaited & ~set, u)) {
                    lasts[set | 1 << u] |= 1 << u;
                }
            }
            return has(awaited, ahead);
        }
    }

    /** A day in thought. */
    private static final class Day {
        static final int HOURS = 24;
        private static final long FACTOR = 48271L, MODULUS = 2147483647L;

        private final Rail rail;
        // The hour in which each thing goes; -1: it doesn't, or is gone now.
        final int[] goesAt = new int[Rail.MOST_THINGS];

        Day(Rail rail) {
            this.rail = rail;
        }

        void run(int[] comings) {
            for (int t = 0; t < Rail.MOST_THINGS; t++) {
                goesAt[t] = -1;
            }
            int gone = rail.gone;
            for (int h = 0; h < HOURS; h++) {
                int willing = willingIn(h, comings);
                for (int round = 0; round < Rail.MOST_THINGS; round++) {
                    // Who can go still can when others went, so that a round at once ends as one by numbers.
                    int going = rail.canGo(gone, rail.sawn) & willing;
                    if (going == 0) {
                        break;
                    }
                    write(going, h);
                    gone |= going;
                }
            }
        }

        private int willingIn(int hour, int[] comings) {
            int willing = 0;
            for (int t = 0; t < rail.things; t++) {
                if (comings[t] <= hour && Kinds.goesIn(rail.kindOf[t], rail.mores[t], hour)) {
                    willing |= 1 << t;
                }
            }
            return willing;
        }

        private void write(int going, int hour) {
            for (int t = 0; t < rail.things; t++) {
                if (has(going, t)) {
                    goesAt[t] = hour;
                }
            }
        }

        /** The hours of coming as drawn by a seed. */
        void draw(int seed, int[] comings) {
            long lot = seed + 1L;
            for (int t = 0; t < rail.things; t++) {
                lot = lot * FACTOR % MODULUS;
                comings[t] = (int) (lot % HOURS);
            }
        }
    }

    /** The tape, the texts read from it, the one in force, and what they say. */
    private static final class LawBook {
        static final int MOST_TEXTS = 6, TAKES = 0, SAWS = 1, MINDS = 2, NO_LOCK = -1;
        private static final int PARTS = 3, MOST_SAID = 99, STACK = 64;
        private static final String FIRST_LAW = "takes 0 ; saws 10 + sort * 5 ; minds 1 ;";

        final Reader tape = new Reader();
        int texts = 0, inForce = 0;
        private final Rail rail;
        private final int[][] steps = new int[MOST_TEXTS][Reader.MOST_BYTES];
        // Of each text, of each part the first step behind it.
        private final int[][] ends = new int[MOST_TEXTS][PARTS];
        private final int[] names = new int[Reader.NAMES];
        private final int[] stack = new int[STACK];

        LawBook(Rail rail) {
            this.rail = rail;
            for (int i = 0; i < FIRST_LAW.length(); i++) {
                tape.append(FIRST_LAW.charAt(i));
            }
            if (tape.read(steps[0], ends[0])) {
                texts = 1;
            }
        }

        /** The tape becomes a text, if it has no fault and there is room; it is empty then. */
        boolean takeTape() {
            if (texts >= MOST_TEXTS || !tape.read(steps[texts], ends[texts])) {
                return false;
            }
            texts++;
            return true;
        }

        int says(int text, int part, int t, int l, int hour) {
            // In the order in which Reader.WORDS has them.
            names[0] = rail.mores[t];
            names[1] = l == NO_LOCK ? 0 : rail.sorts[l];
            names[2] = hour;
            names[3] = t;
            names[4] = l == NO_LOCK ? 0 : Integer.bitCount(rail.sets[l]);
            names[5] = rail.kindOf[t];
            return Math.max(0, Math.min(MOST_SAID, worth(text, part)));
        }

        /** What saws says of a lock and its owner's thing. */
        int sawing(int text, int l) {
            return says(text, SAWS, rail.owners[l], l, 0);
        }

        /** OFF: the minutes to get a thing off a lock. */
        int prising(int t, int l) {
            return Kinds.offBy(rail.kindOf[t], rail.mores[t], says(inForce, TAKES, t, l, 0));
        }

        int minding(int t, int hour) {
            return says(inForce, MINDS, t, NO_LOCK, hour);
        }

        private int worth(int text, int part) {
            int top = 0;
            for (int i = part == 0 ? 0 : ends[text][part - 1]; i < ends[text][part]; i++) {
                int step = steps[text][i];
                if (step > Reader.NEGATE) {
                    if (top < STACK) {
                        stack[top] = step >= 0 ? step : names[-1 - step];
                        top++;
                    }
                } else if (step >= Reader.INVERT) {
                    if (top > 0) {
                        stack[top - 1] = step == Reader.INVERT ? truth(stack[top - 1] == 0) : -stack[top - 1];
                    }
                } else if (top > 1) {
                    top--;
                    stack[top - 1] = joined(step, stack[top - 1], stack[top]);
                }
            }
            return stack[0];
        }

        private static int joined(int step, int a, int b) {
            switch (step) {
                case Reader.TIMES: return a * b;
                case Reader.PLUS: return a + b;
                case Reader.MINUS: return a - b;
                case Reader.LESS: return truth(a < b);
                case Reader.SAME: return truth(a == b);
                case Reader.BOTH: return truth(a != 0 && b != 0);
                default: return truth(a != 0 || b != 0);
            }
        }

        private static int truth(boolean b) {
            return b ? 1 : 0;
        }
    }

    /** Reads a tape as a text and writes it as steps, each sign behind what it joins. */
    private static final class Reader {
        static final int MOST_BYTES = 160, NAMES = 6;
        // The steps: a number stands for itself, name i is -1 - i.
        static final int NEGATE = -7, INVERT = -8, TIMES = -9, PLUS = -10, MINUS = -11;
        static final int LESS = -12, SAME = -13, BOTH = -14, EITHER = -15;
        // The tokens: a sign is its byte, a key KEYS and its place among the words.
        private static final int KEYS = 300, OR = 303, AND = 304, NOT = 305;
        private static final int NAME = 306, NUMBER = 307, END = 308, NOTHING = 309;
        private static final int PARTS = 3, KEY_WORDS = 6, MOST_OPEN = 5, MOST_DIGITS = 4;
        // The ranks: an E joins ANDs by or, an AND NOTs by and, a NOT SUMs, a SUM TERMs, a TERM ONEs.
        private static final int ORS = 0, ANDS = 1, NOTS = 2, SUMS = 3, ONES = 5;
        private static final String WORDS = "takes saws minds or and not more sort hour thing many kind ";
        private static final String SIGNS = "();+-*<=";

        int size = 0;
        // Of the token looked at: its first byte, the first behind it, what it is, of a name or number which.
        int place = 0;
        private int behind = 0, token = END, value = 0;
        private boolean faulty = false;
        private int written = 0;
        private int[] steps = null;
        private final int[] bytes = new int[MOST_BYTES];

        void append(int b) {
            if (size < MOST_BYTES) {
                bytes[size] = b;
                size++;
            }
        }

        /** Whether the tape is a text; the tape is empty then. If not, place is that of its fault. */
        boolean read(int[] toSteps, int[] toEnds) {
            steps = toSteps;
            written = 0;
            behind = 0;
            faulty = false;
            advance();
            for (int part = 0; part < PARTS; part++) {
                demand(KEYS + part);
                expression(ORS, 0);
                demand(';');
                toEnds[part] = written;
            }
            if (token != END) {
                refuse();
            }
            size = 0;
            return !faulty;
        }

        /** From here on no token stands anywhere, so that all that is being read ends. */
        private void refuse() {
            faulty = true;
            token = NOTHING;
        }

        private void demand(int wanted) {
            if (token == wanted) {
                advance();
            } else {
                refuse();
            }
        }

        private void write(int step) {
            if (steps != null && written < steps.length) {
                steps[written] = step;
                written++;
            }
        }

        /** Reads an E, or what of a higher rank stands in one, while some ( , not, - are open. */
        private void expression(int rank, int open) {
            if (rank >= ONES) {
                one(open);
            } else if (rank == NOTS && token == NOT && open < MOST_OPEN) {
                advance();
                expression(NOTS, open + 1);
                write(INVERT);
            } else {
                expression(rank + 1, open);
                int most = rank == NOTS ? 1 : MOST_BYTES;
                int step = joiner(rank);
                for (int i = 0; i < most && step != 0; i++) {
                    advance();
                    expression(rank + 1, open);
                    write(step);
                    step = joiner(rank);
                }
            }
        }

        /** The step of the token looked at, if it joins what stands in a rank, else 0. */
        private int joiner(int rank) {
            switch (rank) {
                case ORS: return token == OR ? EITHER : 0;
                case ANDS: return token == AND ? BOTH : 0;
                case NOTS: return token == '<' ? LESS : token == '=' ? SAME : 0;
                case SUMS: return token == '+' ? PLUS : token == '-' ? MINUS : 0;
                default: return token == '*' ? TIMES : 0;
            }
        }

        private void one(int open) {
            if (token == NUMBER || token == NAME) {
                write(token == NUMBER ? value : -1 - value);
                advance();
            } else if (token == '-' && open < MOST_OPEN) {
                advance();
                one(open + 1);
                write(NEGATE);
            } else if (token == '(' && open < MOST_OPEN) {
                advance();
                expression(ORS, open + 1);
                if (token == ')') {
                    advance();
                } else {
                    refuse();
                }
            } else {
                refuse();
            }
        }

        private void advance() {
            if (faulty) {
                return;
            }
            place = behind;
            while (place < size && (bytes[place] == ' ' || bytes[place] == '\n')) {
                place++;
            }
            behind = place;
            if (place >= size) {
                token = END;
            } else if (isIn(bytes[place], 'a', 'z')) {
                token = scanWord();
            } else if (isIn(bytes[place], '0', '9')) {
                token = scanNumber();
            } else {
                behind = place + 1;
                token = SIGNS.indexOf((char) bytes[place]) >= 0 ? bytes[place] : NOTHING;
            }
        }

        private int scanWord() {
            while (behind < size && isIn(bytes[behind], 'a', 'z')) {
                behind++;
            }
            int word = wordNumber();
            if (word < 0) {
                return NOTHING;
            }
            value = word - KEY_WORDS;
            return word < KEY_WORDS ? KEYS + word : NAME;
        }

        private int scanNumber() {
            value = 0;
            while (behind < size && isIn(bytes[behind], '0', '9')) {
                value = value * 10 + (bytes[behind] - '0');
                behind++;
            }
            return behind - place > MOST_DIGITS ? NOTHING : NUMBER;
        }

        /** Which of WORDS the letters are that are looked at; -1: none. */
        private int wordNumber() {
            int number = 0;
            int at = place;
            boolean same = true;
            for (int i = 0; i < WORDS.length(); i++) {
                char c = WORDS.charAt(i);
                if (c != ' ') {
                    same = same && at < behind && bytes[at] == c;
                    at++;
                } else if (same && at == behind) {
                    return number;
                } else {
                    number++;
                    at = place;
                    same = true;
                }
            }
            return -1;
        }

        private static boolean isIn(int b, char from, char to) {
            return b >= from && b <= to;
        }
    }

    /** A row of numbers of a sort, or missing. */
    private static final class Sheet {
        static final int MOST = 40, MISSING_SORT = -1;
        private static final int BYTES = 0, SHORTS = 1;

        int sort = MISSING_SORT, size = 0;
        final int[] numbers = new int[MOST];

        boolean isMissing() {
            return sort == MISSING_SORT;
        }

        boolean isPlace(int i) {
            return i >= 0 && i < size;
        }

        boolean isStretch(int from, int n) {
            return from >= 0 && n >= 0 && from <= size && n <= size - from;
        }

        void become(int newSort, int newSize) {
            sort = newSort;
            size = newSize;
            for (int i = 0; i < MOST; i++) {
                numbers[i] = 0;
            }
        }

        void put(int i, int v) {
            numbers[i] = sort == BYTES ? (byte) v : sort == SHORTS ? (short) v : v;
        }
    }
}
