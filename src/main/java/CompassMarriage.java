/** Couples as pairs of compasses: what they draw, day by day, and what could be said of it. */
public final class CompassMarriage {
    public static final int NONE = -1, BAD = -2, NOT = -3, FULL = -4;

    private static final int LEAST_INT = -2147483648;
    private static final long LEAST_LONG = -9223372036854775808L;
    private static final int COUPLES = 8, BYTES = 39, EVENTS = 8, SIGHTINGS = 8;
    private static final int DAYS = 20, LAST_DAY = 19, FIGURES = 10, SORTS = 3, FAR = 99;
    private static final int STIFF = 0, LOOSE = 1, BEAM = 2;
    private static final int SCREW = 0, CHANGE = 1, LEAVE = 2;
    private static final int QUARTERS = 4;
    private static final int SHEETS = 4, FORMS = 3, ITEMS = 60;
    private static final int NULL = 1, INDEX = 2, CAST = 3, STORE = 4, SIZE = 5;

    private static final int APART = 0, TOUCH = 1, CROSS = 2, TOUCH_WITHIN = 3, WITHIN = 4, ALIKE = 5;
    /** Sets of what two couples are, as bits. */
    private static final int CROSSING = 1 << CROSS, TOUCHING = 1 << TOUCH | 1 << TOUCH_WITHIN;

    private static final int[] STEP_X = {1, 0, -1, 0};
    private static final int[] STEP_Y = {0, 1, 0, -1};

    private final int[] text = new int[BYTES];
    private int bytes;
    private int faultPlace = NONE;
    private final Couples told = new Couples();
    /** Couples as told but for what is tried in place of it. */
    private final Couples tried = new Couples();
    private final Events events = new Events();
    private final Events drawn = new Events();
    private final Sightings sightings = new Sightings();
    private final Town town = new Town();
    private final Ring single = new Ring();
    private final Places places = new Places();
    private final Sheet[] sheets = new Sheet[SHEETS];
    private int latestFinding;

    public CompassMarriage() {
        for (int s = 0; s < SHEETS; s++) {
            sheets[s] = new Sheet();
        }
    }

    // ---- couples, events

    public int type(int b) {
        if (!isWithin(b, 0, 255)) {
            return BAD;
        }
        if (bytes >= BYTES) {
            return FULL;
        }
        text[bytes] = b;
        bytes++;
        hear();
        return bytes;
    }

    public int wipe() {
        int had = bytes;
        bytes = 0;
        hear();
        return had;
    }

    public int undo() {
        if (bytes == 0) {
            return NOT;
        }
        bytes--;
        hear();
        return bytes;
    }

    public int fault() {
        return faultPlace;
    }

    public int couple(int couple, int what) {
        if (!told.has(couple)) {
            return BAD;
        }
        switch (what) {
            case 0:
                return told.x[couple];
            case 1:
                return told.y[couple];
            case 2:
                return told.spread[couple];
            case 3:
                return told.sort[couple];
            default:
                return BAD;
        }
    }

    public int event(int kind, int day, int couple, int number) {
        if (!Events.mayBe(kind, day, couple, number)) {
            return BAD;
        }
        if (events.isFull()) {
            return FULL;
        }
        events.tell(kind, day, couple, number);
        return events.size;
    }

    public int back() {
        if (events.size == 0) {
            return NOT;
        }
        events.untell();
        return events.size;
    }

    public int read(int s) {
        if (!isSheet(s)) {
            return BAD;
        }
        Sheet from = sheets[s];
        if (from.lost) {
            return find(NULL);
        }
        int came = 0;
        for (int i = 0; i + 4 <= from.size && !events.isFull(); i += 4) {
            int[] items = from.items;
            if (!Events.mayBe(items[i], items[i + 1], items[i + 2], items[i + 3])) {
                break;
            }
            events.tell(items[i], items[i + 1], items[i + 2], items[i + 3]);
            came++;
        }
        return came;
    }

    // ---- days

    public int at(int day, int couple, int what) {
        if (!isDay(day) || !told.has(couple)) {
            return BAD;
        }
        single.live(told, events, events.all(), couple, day);
        switch (what) {
            case 0:
                return single.spread;
            case 1:
                return single.way;
            case 2:
                return single.arcs;
            case 3:
                return single.left ? 1 : 0;
            case 4:
                return single.sighs;
            default:
                return BAD;
        }
    }

    public int place(int day, int couple, int what) {
        if (!isDay(day) || !told.has(couple)) {
            return LEAST_INT;
        }
        single.live(told, events, events.all(), couple, day);
        switch (what) {
            case 0:
                return single.x;
            case 1:
                return single.y;
            case 2:
                return single.legX();
            case 3:
                return single.legY();
            default:
                return LEAST_INT;
        }
    }

    public int are(int day, int one, int other) {
        if (!isDay(day) || !told.has(one) || !told.has(other) || one == other) {
            return BAD;
        }
        comeTo(day);
        return town.rings[one].against(town.rings[other]);
    }

    public int pairs(int day, int what) {
        if (!isDay(day) || !isWithin(what, 0, 1)) {
            return BAD;
        }
        comeTo(day);
        return town.closedPairs(what == 0 ? CROSSING : TOUCHING);
    }

    public int closed(int day) {
        if (!isDay(day)) {
            return BAD;
        }
        comeTo(day);
        return town.closedBits();
    }

    public int holes() {
        places.clear();
        for (int day = 0; day < DAYS; day++) {
            comeTo(day);
            for (int i = 0; i < town.size; i++) {
                places.mark(town.rings[i].x, town.rings[i].y);
            }
        }
        return places.size;
    }

    public int ringed(int couple) {
        if (!told.has(couple)) {
            return BAD;
        }
        for (int day = 0; day < DAYS; day++) {
            single.live(told, events, events.all(), couple, day);
            if (single.isClosed()) {
                return day;
            }
        }
        return NONE;
    }

    public int meets(int what) {
        if (!isWithin(what, 0, 2)) {
            return BAD;
        }
        for (int day = 0; day < DAYS; day++) {
            comeTo(day);
            for (int one = 0; one < town.size; one++) {
                int other = town.firstMetBy(one);
                if (other != NONE) {
                    return pick(what, day, one, other);
                }
            }
        }
        return NONE;
    }

    // ---- plans

    public int open(int couple, int day, int what) {
        if (!told.has(couple) || !isDay(day) || !isWithin(what, 0, 1)) {
            return BAD;
        }
        comeTo(day);
        tried.setTo(told);
        int best = 0;
        int fewest = COUPLES;
        for (int spread = 0; spread < FIGURES; spread++) {
            tried.spread[couple] = spread;
            town.rings[couple].live(tried, events, events.all(), couple, day);
            int crossed = town.othersWith(couple, CROSSING);
            if (crossed < fewest) {
                fewest = crossed;
                best = spread;
            }
        }
        return what == 0 ? best : fewest;
    }

    public int stand(int couple, int day, int what) {
        if (!told.has(couple) || !isDay(day) || !isWithin(what, 0, 2)) {
            return BAD;
        }
        comeTo(day);
        Ring ring = town.rings[couple];
        // Where it stood first moves all its later places alike, so its days need not be gone again.
        int movedX = ring.x - told.x[couple];
        int movedY = ring.y - told.y[couple];
        int bestX = 0;
        int bestY = 0;
        int most = NONE;
        for (int i = 0; i < FIGURES * FIGURES; i++) {
            ring.x = i / FIGURES + movedX;
            ring.y = i % FIGURES + movedY;
            int touched = town.othersWith(couple, TOUCHING);
            if (touched > most) {
                most = touched;
                bestX = i / FIGURES;
                bestY = i % FIGURES;
            }
        }
        return pick(what, bestX, bestY, most);
    }

    public int swap(int what) {
        if (!isWithin(what, 0, 2)) {
            return BAD;
        }
        if (told.size < 2) {
            return NONE;
        }
        tried.setTo(told);
        int first = 0;
        int second = 1;
        int fewest = COUPLES * COUPLES;
        for (int one = 0; one < told.size; one++) {
            for (int other = one + 1; other < told.size; other++) {
                int talked = talkedOnceSwapped(one, other);
                if (talked < fewest) {
                    fewest = talked;
                    first = one;
                    second = other;
                }
            }
        }
        return pick(what, first, second, fewest);
    }

    public int drop(int i) {
        if (!isWithin(i, NONE, 1)) {
            return BAD;
        }
        int dropped = fewestToDrop();
        if (dropped == NONE) {
            return NONE;
        }
        return i == NONE ? Integer.bitCount(dropped) : bitOf(dropped, i);
    }

    // ---- seen, gossip, ages

    public int seen(int day, int couple, int x, int y) {
        boolean isTold = isDay(day) && isWithin(couple, 0, COUPLES - 1);
        if (!isTold || !isWithin(x, -FAR, FAR) || !isWithin(y, -FAR, FAR)) {
            return BAD;
        }
        if (sightings.isFull()) {
            return FULL;
        }
        sightings.note(day, couple, x, y);
        return sightings.size;
    }

    public int forget() {
        int had = sightings.size;
        sightings.size = 0;
        return had;
    }

    public int never() {
        int bits = 0;
        for (int k = 0; k < events.size; k++) {
            if (sightings.comeOut(told, events, events.all() & ~(1 << k), single)) {
                bits |= 1 << k;
            }
        }
        return bits;
    }

    public int was(int couple, int what) {
        if (!told.has(couple) || !isWithin(what, 0, 1)) {
            return BAD;
        }
        return what == 0
                ? valuesThatFit(couple, tried.spread, FIGURES)
                : valuesThatFit(couple, tried.sort, SORTS);
    }

    public int ask(int couple) {
        if (!told.has(couple)) {
            return BAD;
        }
        int spreads = valuesThatFit(couple, tried.spread, FIGURES);
        int best = 0;
        int least = FIGURES + 1;
        for (int day = 0; day < DAYS; day++) {
            int alike = mostAlike(couple, spreads, day);
            if (alike < least) {
                least = alike;
                best = day;
            }
        }
        return best;
    }

    public long gossip(int c, int day, int what) {
        if (!isWithin(c, 0, 16) || !isDay(day) || !isWithin(what, 0, 1)) {
            return LEAST_LONG - BAD;
        }
        int halvings = 4 * events.size;
        long above = waysTalked(c, day);
        long below = 1L << halvings;
        // Below is a power of two, so nothing but two can be common to both.
        for (int i = 0; i < halvings && (above & 1) == 0; i++) {
            above >>= 1;
            below >>= 1;
        }
        return what == 0 ? above : below;
    }

    public int ages(int seed, int n, int what) {
        if (!isWithin(n, 0, EVENTS) || !isWithin(what, 0, 1)) {
            return BAD;
        }
        drawEvents(seed, n);
        town.behind(told, drawn, drawn.all(), LAST_DAY);
        return what == 0 ? town.closedPairs(CROSSING) : Integer.bitCount(town.closedBits());
    }

    // ---- sheets

    public int sheet(int s, int form, int n) {
        if (!isSheet(s) || !isForm(form) || n > ITEMS) {
            return BAD;
        }
        if (n < 0) {
            return find(SIZE);
        }
        sheets[s].renew(form, n);
        return n;
    }

    public int lose(int s) {
        if (!isSheet(s)) {
            return BAD;
        }
        if (sheets[s].lost) {
            return find(NULL);
        }
        sheets[s].lost = true;
        return sheets[s].size;
    }

    public int put(int s, int form, int i, int v) {
        if (!isSheet(s) || !isForm(form)) {
            return BAD;
        }
        int wrong = sheets[s].wrongWith(form, i);
        if (wrong != 0) {
            return find(wrong);
        }
        sheets[s].items[i] = Sheet.lowestBits(form, v);
        return 1;
    }

    public int get(int s, int form, int i) {
        if (!isSheet(s) || !isForm(form)) {
            return LEAST_INT;
        }
        int wrong = sheets[s].wrongWith(form, i);
        if (wrong != 0) {
            find(wrong);
            return LEAST_INT;
        }
        return sheets[s].items[i];
    }

    public int copy(int s, int i, int t, int j, int n) {
        if (!isSheet(s) || !isSheet(t)) {
            return BAD;
        }
        Sheet from = sheets[s];
        Sheet to = sheets[t];
        if (from.lost || to.lost) {
            return find(NULL);
        }
        if (from.form != to.form) {
            return find(STORE);
        }
        if (!from.hasItems(i, n) || !to.hasItems(j, n)) {
            return find(INDEX);
        }
        System.arraycopy(from.items, i, to.items, j, n);
        return 1;
    }

    public int write(int couple, int s) {
        if (!told.has(couple) || !isSheet(s)) {
            return BAD;
        }
        Sheet to = sheets[s];
        if (to.lost) {
            return find(NULL);
        }
        int days = Math.min(to.size, DAYS);
        for (int day = 0; day < days; day++) {
            single.live(told, events, events.all(), couple, day);
            to.items[day] = single.arcs;
        }
        return days;
    }

    public int count(int what) {
        switch (what) {
            case 0:
                return told.size;
            case 1:
                return bytes;
            case 2:
                return events.size;
            case 3:
                return pairs(LAST_DAY, 0);
            case 4:
                return pairs(LAST_DAY, 1);
            case 5:
                return Integer.bitCount(closed(LAST_DAY));
            case 6:
                comeTo(LAST_DAY);
                return town.sighs();
            case 7:
                return sightings.size;
            case 8:
                return latestFinding;
            default:
                return BAD;
        }
    }

    public long digest() {
        long h = 17;
        for (int what = 0; what <= 7; what++) {
            h = mix(h, count(what));
        }
        h = mix(h, fault());
        for (int it = 0; it < told.size; it++) {
            h = mixCouple(h, it);
        }
        h = mixDays(mixPairs(h));
        h = mix(h, holes());
        for (int what = 0; what <= 2; what++) {
            h = mix(h, meets(what));
        }
        for (int what = 0; what <= 2; what++) {
            h = mix(h, swap(what));
        }
        h = mix(h, drop(NONE));
        h = mix(h, drop(0));
        h = mix(h, never());
        h = mix(h, gossip(5, 14, 0));
        h = mix(h, gossip(5, 14, 1));
        h = mix(h, ages(7, 6, 0));
        return mix(h, ages(7, 6, 1));
    }

    // ---- digest's parts

    private static long mix(long h, long value) {
        return 31 * h + value;
    }

    private long mixCouple(long start, int it) {
        long h = start;
        for (int what = 0; what <= 3; what++) {
            h = mix(h, couple(it, what));
        }
        h = mixOneDay(h, 0, it);
        h = mixOneDay(h, 6, it);
        h = mixOneDay(h, 12, it);
        h = mixOneDay(h, LAST_DAY, it);
        h = mix(h, ringed(it));
        h = mix(h, open(it, 12, 0));
        h = mix(h, open(it, 12, 1));
        for (int what = 0; what <= 2; what++) {
            h = mix(h, stand(it, 12, what));
        }
        h = mix(h, was(it, 0));
        h = mix(h, was(it, 1));
        return mix(h, ask(it));
    }

    private long mixOneDay(long start, int day, int it) {
        long h = start;
        for (int what = 0; what <= 4; what++) {
            h = mix(h, at(day, it, what));
        }
        for (int what = 0; what <= 3; what++) {
            h = mix(h, place(day, it, what));
        }
        return h;
    }

    private long mixPairs(long start) {
        long h = start;
        for (int one = 0; one < told.size; one++) {
            for (int other = one + 1; other < told.size; other++) {
                h = mix(h, are(9, one, other));
                h = mix(h, are(LAST_DAY, one, other));
            }
        }
        return h;
    }

    private long mixDays(long start) {
        long h = start;
        for (int day = 0; day < DAYS; day++) {
            h = mix(h, pairs(day, 0));
            h = mix(h, pairs(day, 1));
            h = mix(h, closed(day));
        }
        return h;
    }

    // ---- what the acts share

    private static boolean isWithin(int number, int least, int most) {
        return number >= least && number <= most;
    }

    private static boolean isDay(int day) {
        return isWithin(day, 0, LAST_DAY);
    }

    private static boolean isSheet(int s) {
        return isWithin(s, 0, SHEETS - 1);
    }

    private static boolean isForm(int form) {
        return isWithin(form, 0, FORMS - 1);
    }

    private static int pick(int what, int first, int second, int third) {
        return what == 0 ? first : what == 1 ? second : third;
    }

    /** The place of the i-th bit that is set, from the lowest on. */
    private static int bitOf(int bits, int i) {
        int ahead = 0;
        for (int k = 0; k < 32; k++) {
            if ((bits >>> k & 1) == 1) {
                if (ahead == i) {
                    return k;
                }
                ahead++;
            }
        }
        return NONE;
    }

    private int find(int finding) {
        latestFinding = finding;
        return -10 - finding;
    }

    private void comeTo(int day) {
        town.behind(told, events, events.all(), day);
    }

    /** Couples anew from the text; 39 bytes end with an eighth, so that a ninth never begins. */
    private void hear() {
        faultPlace = NONE;
        for (int i = 0; i < bytes && faultPlace == NONE; i++) {
            if (!hearByte(i / 5, i % 5, text[i])) {
                faultPlace = i;
            }
        }
        if (faultPlace == NONE && bytes > 0 && bytes % 5 != 4) {
            faultPlace = bytes;
        }
        told.size = faultPlace == NONE ? (bytes + 1) / 5 : 0;
    }

    /** Whether the text can go on with this byte. */
    private boolean hearByte(int couple, int slot, int b) {
        if (couple >= COUPLES) {
            return false;
        }
        if (slot == 4) {
            return b == ';';
        }
        if (slot == 3) {
            told.sort[couple] = b == 's' ? STIFF : b == 'l' ? LOOSE : BEAM;
            return b == 's' || b == 'l' || b == 'b';
        }
        int figure = b - '0';
        if (slot == 0) {
            told.x[couple] = figure;
        } else if (slot == 1) {
            told.y[couple] = figure;
        } else {
            told.spread[couple] = figure;
        }
        return isWithin(figure, 0, 9);
    }

    private int talkedOnceSwapped(int one, int other) {
        tried.swapSpreads(one, other);
        town.behind(tried, events, events.all(), LAST_DAY);
        tried.swapSpreads(one, other);
        return town.closedPairs(CROSSING);
    }

    private boolean isQuietWithout(int dropped) {
        town.behind(told, events, events.all() & ~dropped, LAST_DAY);
        return town.closedPairs(CROSSING) == 0;
    }

    /** The events to drop, as bits, or NONE. */
    private int fewestToDrop() {
        if (isQuietWithout(0)) {
            return 0;
        }
        for (int k = 0; k < events.size; k++) {
            if (isQuietWithout(1 << k)) {
                return 1 << k;
            }
        }
        for (int k = 0; k < events.size; k++) {
            for (int more = k + 1; more < events.size; more++) {
                if (isQuietWithout(1 << k | 1 << more)) {
                    return 1 << k | 1 << more;
                }
            }
        }
        return NONE;
    }

    /** Values from 0 on, in one of the rows of tried, by which all that was seen comes out so, as bits. */
    private int valuesThatFit(int couple, int[] row, int values) {
        tried.setTo(told);
        int bits = 0;
        for (int value = 0; value < values; value++) {
            row[couple] = value;
            if (sightings.comeOut(tried, events, events.all(), single)) {
                bits |= 1 << value;
            }
        }
        return bits;
    }

    /** The greatest number of these spreads by which the leg is at one place behind the day. */
    private int mostAlike(int couple, int spreads, int day) {
        tried.setTo(told);
        places.clear();
        for (int spread = 0; spread < FIGURES; spread++) {
            if ((spreads >> spread & 1) == 1) {
                tried.spread[couple] = spread;
                single.live(tried, events, events.all(), couple, day);
                places.mark(single.legX(), single.legY());
            }
        }
        return places.mostMarks();
    }

    /** Of 16 to the number of events, how much has anybody talked of. */
    private long waysTalked(int c, int day) {
        long ways = 0;
        town.behind(told, events, 0, day);
        for (int mask = 0; mask <= events.all(); mask++) {
            // Whoever has the same events as in the round before need not live again.
            town.liveAgain(told, events, mask, mask ^ (mask - 1), day);
            if (town.closedPairs(CROSSING) > 0) {
                ways += weight(c, mask);
            }
        }
        return ways;
    }

    private long weight(int c, int mask) {
        long weight = 1;
        for (int k = 0; k < events.size; k++) {
            weight *= (mask >> k & 1) == 1 ? c : 16 - c;
        }
        return weight;
    }

    private void drawEvents(int seed, int n) {
        drawn.size = 0;
        int lot = seed;
        for (int k = 0; k < n && told.size > 0; k++) {
            lot = nextLot(lot);
            int kind = lotOf(lot, 3);
            lot = nextLot(lot);
            int day = lotOf(lot, DAYS);
            lot = nextLot(lot);
            int couple = lotOf(lot, told.size);
            lot = nextLot(lot);
            drawn.tell(kind, day, couple, lotOf(lot, FIGURES));
        }
    }

    private static int nextLot(int lot) {
        return 1103515245 * lot + 12345;
    }

    private static int lotOf(int lot, int m) {
        return m > 0 ? (lot >>> 16) % m : 0;
    }

    /** Couples: where each stands, how wide, of what sort. */
    private static final class Couples {
        final int[] x = new int[COUPLES];
        final int[] y = new int[COUPLES];
        final int[] spread = new int[COUPLES];
        final int[] sort = new int[COUPLES];
        int size;

        boolean has(int couple) {
            return couple >= 0 && couple < size;
        }

        void setTo(Couples other) {
            System.arraycopy(other.x, 0, x, 0, COUPLES);
            System.arraycopy(other.y, 0, y, 0, COUPLES);
            System.arraycopy(other.spread, 0, spread, 0, COUPLES);
            System.arraycopy(other.sort, 0, sort, 0, COUPLES);
            size = other.size;
        }

        void swapSpreads(int one, int other) {
            int kept = spread[one];
            spread[one] = spread[other];
            spread[other] = kept;
        }
    }

    /** Events as told, and the order in which their days bring them. */
    private static final class Events {
        final int[] kind = new int[EVENTS];
        final int[] day = new int[EVENTS];
        final int[] couple = new int[EVENTS];
        final int[] number = new int[EVENTS];
        final int[] order = new int[EVENTS];
        int size;

        static boolean mayBe(int kind, int day, int couple, int number) {
            return isWithin(kind, SCREW, LEAVE) && isDay(day)
                    && isWithin(couple, 0, COUPLES - 1) && isWithin(number, 0, 9);
        }

        boolean isFull() {
            return size >= EVENTS;
        }

        int all() {
            return (1 << size) - 1;
        }

        void tell(int itsKind, int itsDay, int itsCouple, int itsNumber) {
            if (isFull()) {
                return;
            }
            kind[size] = itsKind;
            day[size] = itsDay;
            couple[size] = itsCouple;
            number[size] = itsNumber;
            int i = size;
            // Behind those of its own day, as they were told sooner.
            while (i > 0 && day[order[i - 1]] > itsDay) {
                order[i] = order[i - 1];
                i--;
            }
            order[i] = size;
            size++;
        }

        void untell() {
            if (size == 0) {
                return;
            }
            size--;
            int kept = 0;
            for (int i = 0; i <= size; i++) {
                if (order[i] != size) {
                    order[kept] = order[i];
                    kept++;
                }
            }
        }

        /** Whether any of these events is of the couple. */
        boolean touch(int itsCouple, int mask) {
            for (int k = 0; k < size; k++) {
                if (couple[k] == itsCouple && (mask >> k & 1) == 1) {
                    return true;
                }
            }
            return false;
        }
    }

    /** One couple as it is behind a day. */
    private static final class Ring {
        int x;
        int y;
        int spread;
        int sort;
        int way;
        int arcs;
        int sighs;
        boolean left;

        /** From the first day to this one, with the events whose bits are in the mask. */
        void live(Couples told, Events events, int mask, int couple, int day) {
            begin(told, couple);
            int next = 0;
            for (int i = 0; i < events.size; i++) {
                int k = events.order[i];
                if (events.day[k] <= day && events.couple[k] == couple && (mask >> k & 1) == 1) {
                    goRound(next, events.day[k]);
                    next = events.day[k];
                    undergo(events.kind[k], events.number[k]);
                }
            }
            goRound(next, day + 1);
        }

        private void begin(Couples told, int couple) {
            x = told.x[couple];
            y = told.y[couple];
            spread = told.spread[couple];
            sort = told.sort[couple];
            way = 0;
            arcs = 0;
            sighs = 0;
            left = false;
        }

        private void undergo(int kind, int number) {
            if (kind == SCREW) {
                spread = number;
                arcs = 0;
            } else if (kind == CHANGE) {
                x += spread * STEP_X[way & 3];
                y += spread * STEP_Y[way & 3];
                way = (way + 2) & 3;
                sighs += arcs > 0 && arcs < QUARTERS ? 1 : 0;
                arcs = 0;
            } else {
                left = true;
            }
        }

        /** The days from one on and ahead of the other, none of them with an event. */
        private void goRound(int from, int to) {
            if (left || spread == 0) {
                return;
            }
            int quarters = to - from;
            if (sort == BEAM) {
                quarters = 2 * quarters;
            } else if (sort == STIFF) {
                quarters = (to + 1) / 2 - (from + 1) / 2;
            }
            way = (way + quarters) & 3;
            arcs = arcs + quarters < QUARTERS ? arcs + quarters : QUARTERS;
        }

        int legX() {
            return x + spread * STEP_X[way & 3];
        }

        int legY() {
            return y + spread * STEP_Y[way & 3];
        }

        boolean isClosed() {
            return arcs == QUARTERS;
        }

        boolean meetsLegOf(Ring other) {
            return legX() == other.legX() && legY() == other.legY();
        }

        /** Whether what the two are is among these. */
        boolean isAny(int relations, Ring other) {
            return (relations >> against(other) & 1) == 1;
        }

        /** What the two are. */
        int against(Ring other) {
            int alongX = x - other.x;
            int alongY = y - other.y;
            int apart = alongX * alongX + alongY * alongY;
            if (apart == 0 && spread == other.spread) {
                return ALIKE;
            }
            int both = spread + other.spread;
            int together = both * both;
            if (apart >= together) {
                return apart == together ? TOUCH : APART;
            }
            int more = spread - other.spread;
            int difference = more * more;
            if (apart <= difference) {
                return apart == difference ? TOUCH_WITHIN : WITHIN;
            }
            return CROSS;
        }
    }

    /** All couples as they are behind a day. */
    private static final class Town {
        final Ring[] rings = new Ring[COUPLES];
        int size;

        Town() {
            for (int i = 0; i < COUPLES; i++) {
                rings[i] = new Ring();
            }
        }

        void behind(Couples told, Events events, int mask, int day) {
            size = told.size;
            for (int i = 0; i < size; i++) {
                rings[i].live(told, events, mask, i, day);
            }
        }

        /** Those of whom an event is among the changed ones. */
        void liveAgain(Couples told, Events events, int mask, int changed, int day) {
            for (int i = 0; i < size; i++) {
                if (events.touch(i, changed)) {
                    rings[i].live(told, events, mask, i, day);
                }
            }
        }

        int closedPairs(int relations) {
            int found = 0;
            for (int one = 0; one < size; one++) {
                for (int other = one + 1; other < size && rings[one].isClosed(); other++) {
                    if (rings[other].isClosed() && rings[one].isAny(relations, rings[other])) {
                        found++;
                    }
                }
            }
            return found;
        }

        int othersWith(int couple, int relations) {
            int found = 0;
            for (int other = 0; other < size; other++) {
                if (other != couple && rings[couple].isAny(relations, rings[other])) {
                    found++;
                }
            }
            return found;
        }

        int closedBits() {
            int bits = 0;
            for (int i = 0; i < size; i++) {
                if (rings[i].isClosed()) {
                    bits |= 1 << i;
                }
            }
            return bits;
        }

        int sighs() {
            int sum = 0;
            for (int i = 0; i < size; i++) {
                sum += rings[i].sighs;
            }
            return sum;
        }

        /** The least couple above this one whose leg is where its leg is, or NONE. */
        int firstMetBy(int one) {
            for (int other = one + 1; other < size; other++) {
                if (rings[one].meetsLegOf(rings[other])) {
                    return other;
                }
            }
            return NONE;
        }
    }

    /** Where legs were seen. */
    private static final class Sightings {
        final int[] day = new int[SIGHTINGS];
        final int[] couple = new int[SIGHTINGS];
        final int[] x = new int[SIGHTINGS];
        final int[] y = new int[SIGHTINGS];
        int size;

        boolean isFull() {
            return size >= SIGHTINGS;
        }

        void note(int itsDay, int itsCouple, int itsX, int itsY) {
            if (isFull()) {
                return;
            }
            day[size] = itsDay;
            couple[size] = itsCouple;
            x[size] = itsX;
            y[size] = itsY;
            size++;
        }

        /** Whether all that was seen comes out so; the ring is one to live it with. */
        boolean comeOut(Couples told, Events events, int mask, Ring ring) {
            for (int i = 0; i < size; i++) {
                if (!told.has(couple[i])) {
                    return false;
                }
                ring.live(told, events, mask, couple[i], day[i]);
                if (ring.legX() != x[i] || ring.legY() != y[i]) {
                    return false;
                }
            }
            return true;
        }
    }

    /** Places, each once, and how often each was marked. */
    private static final class Places {
        /** A point leaves its place by a change alone, so couples and events together are enough. */
        private static final int ROOM = COUPLES + EVENTS;
        final int[] x = new int[ROOM];
        final int[] y = new int[ROOM];
        final int[] marks = new int[ROOM];
        int size;

        void clear() {
            size = 0;
        }

        void mark(int itsX, int itsY) {
            for (int i = 0; i < size; i++) {
                if (x[i] == itsX && y[i] == itsY) {
                    marks[i]++;
                    return;
                }
            }
            if (size < ROOM) {
                x[size] = itsX;
                y[size] = itsY;
                marks[size] = 1;
                size++;
            }
        }

        int mostMarks() {
            int most = 0;
            for (int i = 0; i < size; i++) {
                most = Math.max(most, marks[i]);
            }
            return most;
        }
    }

    /** A row of a form; its items are kept as ints, cut to the bits of the form. */
    private static final class Sheet {
        final int[] items = new int[ITEMS];
        boolean lost = true;
        int form;
        int size;

        void renew(int itsForm, int n) {
            lost = false;
            form = itsForm;
            size = n;
            for (int i = 0; i < ITEMS; i++) {
                items[i] = 0;
            }
        }

        /** The finding with which item i, as of this form, cannot be had; 0 for none. */
        int wrongWith(int itsForm, int i) {
            if (lost) {
                return NULL;
            }
            if (form != itsForm) {
                return CAST;
            }
            return i < 0 || i >= size ? INDEX : 0;
        }

        boolean hasItems(int from, int n) {
            return from >= 0 && n >= 0 && n <= size - from;
        }

        static int lowestBits(int form, int v) {
            return form == 0 ? (byte) v : form == 1 ? (short) v : v;
        }
    }
}
